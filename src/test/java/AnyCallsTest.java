import java.util.Random;

/** Any calls with any arguments: none throws, each ends, and the same calls give the same answers. */
public final class AnyCallsTest {
    private static final String[] LINES = {"seam 1 0 2;", "seam 9 3 9;", "seam 4 1 0;", "after 1 0;", "after 0 1;",
        "after 8 7;", "pace 3;", "grows 2 5;", "grows 99 9;", "sew 0;", "sew 1;", "unpick 0;", "tear 1;", "grow 3;",
        "shrink 9;", "day;", "speed 9;", "miles 1;", "tailor 9 9;", "wearer 3 4 30 99;", "wearer 0 0 1 0;",
        "away 0 0 99;", "away 5 1 1;", "before 0 1;", "at 0 0;", "not 8 8;", "seam 10 0 0;", "sew", ";", "q", "123;",
        "\u00ff", " ", "\n"};
    /** Two end(), up to thirty feed(), text(), two fault(): behind the 512th call nothing is promised. */
    private static final int TEXT_CALLS = 35;
    private static final int[] FIRST = {0, 9, 16, 23};
    private static final int[] BEHIND = {9, 16, 23, 26};

    public static void main(String[] args) {
        for (int run = 0; run < 600; run++) {
            long a = run(run);
            Due.is("run " + run + " again", run(run), a);
        }
        Due.end();
    }

    private static int any(Random dice) {
        switch (dice.nextInt(12)) {
            case 0: return dice.nextInt();
            case 1: return Integer.MIN_VALUE + dice.nextInt(2);
            case 2: return Integer.MAX_VALUE - dice.nextInt(2);
            case 3: return dice.nextInt(130) - 10;
            case 4: return dice.nextInt(60);
            case 5: return 6 * dice.nextInt(8000);
            default: return dice.nextInt(5) - 1;
        }
    }

    private static long run(int seed) {
        Random dice = new Random(seed);
        SewnYear x = new SewnYear();
        long sum = 0;
        for (int left = 512; left > 0;) {
            if (left >= TEXT_CALLS && dice.nextInt(seed % 3 == 0 ? 6 : 30) == 0) {
                sum = sum * 31 + text(x, dice);
                left -= TEXT_CALLS;
            } else {
                sum = sum * 31 + ask(x, dice);
                left--;
            }
        }
        return sum;
    }

    private static long text(SewnYear x, Random dice) {
        int sort = dice.nextInt(4);
        StringBuilder text = new StringBuilder();
        for (int lines = dice.nextInt(dice.nextInt(5) == 0 ? 80 : 14); lines > 0; lines--) {
            int of = dice.nextInt(60) == 0 ? dice.nextInt(LINES.length)
                : FIRST[sort] + dice.nextInt(BEHIND[sort] - FIRST[sort]);
            text.append(LINES[of]);
        }
        Tape.put(x, text.length() > 600 ? text.substring(0, 600) : text.toString());
        long got = x.text(sort, dice.nextInt(3) - 1);
        return got * 31 + x.fault(0) * 1000 + x.fault(1);
    }

    private static long ask(SewnYear x, Random dice) {
        int a = any(dice);
        int b = any(dice);
        int c = any(dice);
        int d = any(dice);
        int e = any(dice);
        boolean side = dice.nextBoolean();
        switch (dice.nextInt(31)) {
            case 0: return x.feed(a, b, c, d, e);
            case 1: return x.end(a);
            case 2: return x.text(a, b);
            case 3: return x.fault(a);
            case 4: return x.coat(a, b);
            case 5: return x.deed(a, b, c);
            case 6: return x.stop(a, b);
            case 7: return x.state(a, b, c, d);
            case 8: return x.orders(a);
            case 9: return x.order(a, b, c);
            case 10: return x.sewn(a, b);
            case 11: return x.parted(a, b, c, side);
            case 12: return x.town(a, b);
            case 13: return x.done(a, b, c, d);
            case 14: return x.rounds(a, b);
            case 15: return x.cloth(a, b, c, d, e);
            case 16: return x.fact(a, b, c);
            case 17: return x.fits(a, b, c, d);
            case 18: return x.sure(a, b, c);
            case 19: return x.drawn(a, b, c, d);
            case 20: return x.under(a, b, c);
            case 21: return x.hands(a, b);
            case 22: return x.spools(a, b);
            case 23: return x.grown(a, b);
            case 24: return x.home(a, side);
            case 25: return x.way(a, b, c);
            case 26: return x.enough(a, b, c, side);
            case 27: return x.count(a);
            case 28: return x.image(a) ? 1 : 0;
            case 29: return x.again(a) ? 1 : 0;
            default: return x.rounds(dice.nextInt(2), dice.nextInt(30));
        }
    }
}
