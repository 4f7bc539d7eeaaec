import java.util.Random;

/**
 * Long rows of any calls, answered by the program and by PlainYear: texts good and faulty, in new places and old ones,
 * images between them, arguments that can be and such as can't.
 */
public final class PlainTest {
    private static final int RUNS = Integer.getInteger("runs", 400);
    private static final int FIRST = Integer.getInteger("first", 0);
    private static final int MOST_CALLS = 512;
    private static final int TEXT_CALLS = 36;

    private final Random dice;
    private final SewnYear x = new SewnYear();
    private final PlainYear y = new PlainYear();
    private final int seams;
    private int calls = 0;

    private PlainTest(int seed) {
        dice = new Random(seed);
        seams = seed % 40 == 39 ? 8 : seed % 8 == 7 ? 6 : dice.nextInt(6);
    }

    public static void main(String[] args) {
        for (int seed = FIRST; seed < FIRST + RUNS; seed++) {
            Due.begin("run " + seed);
            new PlainTest(seed).run();
        }
        Due.begin("all");
        Due.end();
    }

    private void run() {
        for (int sort = 0; sort < 4; sort++) {
            tell(sort, -1, good(sort));
        }
        while (calls < MOST_CALLS) {
            if (calls <= MOST_CALLS - TEXT_CALLS && dice.nextInt(25) == 0) {
                int sort = dice.nextInt(4);
                int at = dice.nextInt(12) == 0 ? any() : dice.nextInt(3) - 1;
                tell(sort, at, dice.nextInt(3) > 0 ? good(sort) : bad(sort, good(sort)));
            } else {
                ask();
            }
        }
    }

    private int upTo(int least, int most) {
        return least + dice.nextInt(most - least + 1);
    }

    private boolean oneOf(int n) {
        return dice.nextInt(n) == 0;
    }

    // Texts

    private String good(int sort) {
        StringBuilder text = new StringBuilder();
        switch (sort) {
            case 0: coat(text); break;
            case 1: life(text); break;
            case 2: town(text); break;
            default: sight(text); break;
        }
        return text.length() > 600 ? text.substring(0, 600) : text.toString();
    }

    private void line(StringBuilder text, String word, int... numbers) {
        String blank = oneOf(20) ? "\n " : " ";
        text.append(word);
        for (int n : numbers) {
            text.append(blank).append(n < 10 && oneOf(30) ? "0" : "").append(n);
        }
        text.append(oneOf(20) ? "\n;" : ";").append(oneOf(9) ? " " : "");
    }

    private void coat(StringBuilder text) {
        int n = Math.max(0, seams - (oneOf(5) ? 1 : 0));
        int colours = upTo(0, 3);
        int most = oneOf(2) ? 9 : 3;
        for (int s = 0; s < n; s++) {
            line(text, "seam", upTo(1, most), upTo(0, colours), oneOf(2) ? upTo(0, 3) : upTo(0, 9));
        }
        boolean ring = oneOf(8);
        boolean turned = oneOf(2);
        for (int i = n == 8 ? 10 : upTo(0, 2 * n); i > 0 && n > 1; i--) {
            int a = upTo(0, n - 1);
            int b = upTo(0, n - 1);
            if (a != b) {
                boolean swap = !ring && a < b != turned;
                line(text, "after", swap ? b : a, swap ? a : b);
            }
        }
        if (oneOf(3)) {
            line(text, "pace", upTo(1, 9));
        }
        for (int i = upTo(0, 6); i > 0; i--) {
            line(text, "grows", oneOf(6) ? upTo(0, 99) : upTo(0, 12), upTo(0, oneOf(3) ? 9 : 2));
        }
        line(text, "pace", oneOf(2) ? upTo(1, 9) : upTo(1, 3));
    }

    /** One SEAM for some DEEDS, a day behind each few of them: many such go on for long. */
    private void life(StringBuilder text) {
        String[] words = {"sew", "unpick", "tear", "grow", "shrink", "day"};
        int rare = upTo(3, 30);
        int row = upTo(1, 9);
        int most = Math.max(0, seams - 1);
        int s = upTo(0, most);
        for (int i = upTo(0, 40); i > 0; i--) {
            int kind = oneOf(rare) ? upTo(1, 4) : i % 3 == 0 ? 5 : 0;
            s = oneOf(row) ? upTo(0, most) : s;
            if (kind == 5) {
                line(text, "day");
            } else {
                line(text, words[kind], kind > 2 ? upTo(1, oneOf(4) ? 9 : 2) : s);
            }
        }
    }

    private void town(StringBuilder text) {
        int n = oneOf(25) ? 6 : upTo(0, 4);
        int far = oneOf(2) ? 9 : upTo(0, 9);
        int due = oneOf(2) ? 99 : upTo(0, 30);
        for (int w = 0; w < n; w++) {
            line(text, "wearer", upTo(0, far), upTo(0, far), upTo(1, oneOf(2) ? 30 : 6), upTo(0, due));
        }
        for (int i = upTo(0, n); i > 0; i--) {
            int from = upTo(0, oneOf(4) ? 99 : 30);
            line(text, "away", upTo(0, n - 1), from, Math.min(99, from + upTo(0, 12)));
        }
        if (oneOf(2)) {
            line(text, "speed", upTo(1, 9));
        }
        if (oneOf(2)) {
            line(text, "miles", upTo(1, 9));
        }
        if (oneOf(2)) {
            line(text, "tailor", upTo(0, 9), upTo(0, 9));
        }
    }

    private void sight(StringBuilder text) {
        int most = oneOf(9) ? 8 : Math.max(0, seams - 2);
        for (int i = oneOf(9) ? 10 : upTo(0, 3); i > 0; i--) {
            int a = upTo(0, most);
            int b = upTo(0, most);
            if (a == b || oneOf(2)) {
                line(text, oneOf(4) ? "at" : "not", a, oneOf(3) ? upTo(0, 8) : b);
            } else {
                line(text, "before", a, b);
            }
        }
    }

    private static final String[][] MORE = {
        {"seam 1 0 0;", "after 8 0;", "after 0 7;", "after 3 3;", "after 9 9;", "pace 0;", "pace 10;", "seam 10 4 10;",
            "seam 0 3 9;", "grows 5 10;", "pace", "sew 1;"},
        {"day;", "sew 8;", "sew 9;", "unpick 9;", "tear 99;", "tear 100;", "grow 0;", "grow 10;", "shrink 9;", "grow",
            "grows 1 1;"},
        {"wearer 1 1 1 1;", "wearer 10 9 31 99;", "away 5 0 0;", "away 0 2 1;", "away 6 2 1;", "away 1 0 99;", "speed 0;",
            "miles 10;", "tailor 9 10;", "miles 1 ", "at 0 0;"},
        {"at 0 0;", "before 3 3;", "before 8 9;", "not 9 9;", "at 8 8;", "not 0 9;", "before 7 8;", "at 1 1", "day;"}};

    /** A text with some lines too much, or some bytes struck or put in. */
    private String bad(int sort, String good) {
        String signs = "01239 ;\nadeswyz.\u0000\u0080\u00ff";
        StringBuilder text = new StringBuilder(good);
        boolean bytes = oneOf(3);
        for (int i = upTo(1, 3); i > 0; i--) {
            int at = upTo(0, text.length());
            if (!bytes) {
                String line = MORE[sort][dice.nextInt(MORE[sort].length - (oneOf(4) ? 0 : 2))];
                text.insert(text.lastIndexOf(";", at) + 1, Tape.times(line, oneOf(6) ? upTo(5, 41) : 1));
            } else if (oneOf(3)) {
                text.insert(at, signs.charAt(dice.nextInt(signs.length())));
            } else if (oneOf(2)) {
                text.delete(at, Math.min(text.length(), at + upTo(1, 2)));
            } else {
                text.setLength(at);
            }
        }
        return text.length() > 600 ? text.substring(0, 600) : text.toString();
    }

    private void tell(int sort, int at, String text) {
        same("end", x.end(0), y.end(0));
        for (int from = 0; from < text.length(); from += 20) {
            int[] w = new int[5];
            for (int i = 0; i < 20; i++) {
                w[i / 4] = w[i / 4] << 8 | (from + i < text.length() ? text.charAt(from + i) : 32);
            }
            same("feed", x.feed(w[0], w[1], w[2], w[3], w[4]), y.feed(w));
        }
        same("end", x.end(text.length()), y.end(text.length()));
        if (oneOf(9)) {
            same("image", x.image(1), y.image(1));
        }
        same("text " + sort + " " + at + " '" + text + "'", x.text(sort, at), y.text(sort, at));
        same("its fault", x.fault(0), y.fault(0));
        same("its place '" + text + "'", x.fault(1), y.fault(1));
    }

    // Calls

    private void same(String call, long got, long due) {
        calls++;
        Due.is(call, got, due);
    }

    private void same(String call, boolean got, boolean due) {
        same(call, got ? 1 : 0, due ? 1 : 0);
    }

    private int any() {
        int[] odd = {Integer.MIN_VALUE, Integer.MAX_VALUE, -2, -3, 9, 10, 31, 32, 33, 64, 99, 100, 127, 128, 255, 256};
        return oneOf(3) ? dice.nextInt() : odd[dice.nextInt(odd.length)];
    }

    /** Mostly from the least to the most, now and then one beside them, or any number. */
    private int some(int least, int most) {
        return oneOf(60) ? any() : oneOf(20) ? (oneOf(2) ? least - 1 : most + 1) : upTo(least, most);
    }

    private int one() {
        return oneOf(25) ? some(-1, 2) : dice.nextInt(4) / 3;
    }

    private int seam() {
        return some(0, Math.max(0, seams - 1));
    }

    /** What of a row: a ten, and one of it. */
    private int what(int firsts, int tens, int ones) {
        return oneOf(3) ? some(0, firsts - 1) : 10 * some(1, tens) + some(0, ones - 1);
    }

    private void ask() {
        int a = one();
        int b = one();
        boolean side = dice.nextBoolean();
        int s = seam();
        int t = seam();
        int w;
        int n;
        switch (dice.nextInt(32)) {
            case 0:
                int[] f = {any(), any(), any(), any(), any()};
                same("feed", x.feed(f[0], f[1], f[2], f[3], f[4]), y.feed(f));
                break;
            case 1:
                n = some(0, 45);
                same("end " + n, x.end(n), y.end(n));
                break;
            case 2:
                n = some(0, 1);
                same("fault " + n, x.fault(n), y.fault(n));
                break;
            case 3:
                w = oneOf(3) ? 100 + some(0, 99) : what(2, 4, seams + 1);
                same("coat " + a + " " + w, x.coat(a, w), y.coat(a, w));
                break;
            case 4:
                n = some(-1, 40);
                w = n == -1 ? some(0, 0) : some(0, 1);
                same("deed " + a + " " + n + " " + w, x.deed(a, n, w), y.deed(a, n, w));
                break;
            case 5:
                same("stop " + a + " " + b, x.stop(a, b), y.stop(a, b));
                break;
            case 6:
            case 7:
                n = oneOf(4) ? some(0, 40) : Math.max(0, y.stop(a, b) - dice.nextInt(12));
                w = what(6, 2, seams + 1);
                same("state " + a + " " + b + " " + n + " " + w, x.state(a, b, n, w), y.state(a, b, n, w));
                break;
            case 8:
                same("orders " + a, x.orders(a), y.orders(a));
                break;
            case 9:
            case 10:
                w = some(0, 4);
                same("order " + a + " " + s + " " + w, x.order(a, s, w), y.order(a, s, w));
                break;
            case 11:
                w = some(0, 3);
                same("sewn " + a + " " + w, x.sewn(a, w), y.sewn(a, w));
                break;
            case 12:
                same("parted " + a + " " + s + " " + t + " " + side, x.parted(a, s, t, side), y.parted(a, s, t, side));
                break;
            case 13:
                w = what(5, 6, 6);
                same("town " + a + " " + w, x.town(a, w), y.town(a, w));
                break;
            case 14:
                done(a);
                break;
            case 15:
            case 16:
                w = what(4, 2, 6);
                same("rounds " + a + " " + w, x.rounds(a, w), y.rounds(a, w));
                break;
            case 17:
            case 18:
                odds(side);
                break;
            case 19:
                n = some(-1, 10);
                w = n == -1 ? some(0, 0) : some(0, 2);
                same("fact " + a + " " + n + " " + w, x.fact(a, n, w), y.fact(a, n, w));
                break;
            case 20:
            case 21:
                n = oneOf(3) ? -1 : s;
                same("fits " + a + " " + b + " " + n + " " + t, x.fits(a, b, n, t), y.fits(a, b, n, t));
                break;
            case 22:
                n = oneOf(2) ? -1 : t;
                same("sure " + a + " " + b + " " + n, x.sure(a, b, n), y.sure(a, b, n));
                break;
            case 23:
                int seed = oneOf(2) ? dice.nextInt() : any();
                n = some(0, 60);
                w = what(6, 2, seams + 1);
                same("drawn " + a + " " + seed + " " + n + " " + w, x.drawn(a, seed, n, w), y.drawn(a, seed, n, w));
                break;
            case 24:
                w = some(0, 1);
                same("under " + a + " " + s + " " + w, x.under(a, s, w), y.under(a, s, w));
                break;
            case 25:
                n = some(1, 4);
                same("hands " + a + " " + n, x.hands(a, n), y.hands(a, n));
                break;
            case 26:
                n = oneOf(3) ? some(1, 60) : some(1, 20);
                same("spools " + a + " " + n, x.spools(a, n), y.spools(a, n));
                break;
            case 27:
                n = some(-1, 30);
                same("grown " + a + " " + n, x.grown(a, n), y.grown(a, n));
                break;
            case 28:
                if (y.town(a, 0) < 5 || oneOf(8)) {
                    same("home " + a + " " + side, x.home(a, side), y.home(a, side));
                }
                break;
            case 29:
                n = some(0, 5);
                w = some(0, 5);
                same("way " + a + " " + n + " " + w, x.way(a, n, w), y.way(a, n, w));
                break;
            case 30:
                n = some(0, 3);
                same("count " + n, x.count(n), y.count(n));
                break;
            default:
                n = some(0, 2);
                if (oneOf(2)) {
                    same("image " + n, x.image(n), y.image(n));
                } else {
                    same("again " + n, x.again(n), y.again(n));
                }
                break;
        }
    }

    private void done(int town) {
        int n = some(1, 6);
        int round = 0;
        int used = 0;
        int there = Math.max(1, y.town(town, 0));
        for (int i = 0; i < n && n < 8; i++) {
            int w = upTo(0, there - 1);
            for (int tries = 0; tries < 6 && (used & 1 << w) != 0; tries++) {
                w = (w + 1) % there;
            }
            used |= 1 << w;
            round = 6 * round + w;
        }
        round = oneOf(9) ? some(0, 46656) : round;
        int k = some(0, n > 0 && n < 8 ? n - 1 : 0);
        same("done " + town + " " + round + " " + n + " " + k, x.done(town, round, n, k), y.done(town, round, n, k));
    }

    private void odds(boolean under) {
        int n = some(1, oneOf(4) ? 12 : 8);
        int p = some(0, 10);
        int c = some(0, oneOf(2) ? 99 : 9);
        int d = some(0, oneOf(2) ? 99 : 9);
        int q = some(0, 2);
        int e = some(0, 12);
        if (oneOf(2)) {
            same("cloth " + n + " " + p + " " + c + " " + d + " " + q, x.cloth(n, p, c, d, q), y.cloth(n, p, c, d, q));
        } else {
            same("enough " + n + " " + p + " " + e + " " + under, x.enough(n, p, e, under), y.enough(n, p, e, under));
        }
    }
}
