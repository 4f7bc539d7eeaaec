import java.math.BigInteger;
import java.util.ArrayList;
import java.util.List;
import java.util.Random;

/** Random COATS, LIVES, TOWNS and SIGHTS against the plainest reckoning: every ORDER and ROUND is looked at. */
public final class ReferenceTest {
    private static final Random DICE = new Random(7);

    private static int seams;
    private static int pace;
    private static final int[] STITCHES = new int[9];
    private static final int[] COLOURS = new int[9];
    private static final int[] EASES = new int[9];
    private static final boolean[][] AFTER = new boolean[9][9];
    private static final int[] GROWTHS = new int[200];
    private static List<int[]> orders;

    public static void main(String[] args) {
        for (int i = 0; i < 600; i++) {
            String text = coat(i < 20 ? 7 : 1 + DICE.nextInt(6), i % 9 == 8);
            SewnYear x = of(text);
            ordersOf(x);
            sewnOf(x);
            partedOf(x);
            underOf(x);
            SewnYear y = of(text);
            handsOf(y);
            spoolsOf(y);
            grownOf(y);
            sightsOf(y);
            livesOf(text);
            drawnOf(of(text));
        }
        for (int i = 0; i < 300; i++) {
            townOf(i % 7 == 0 ? 6 : 1 + DICE.nextInt(5));
        }
        for (int i = 0; i < 2000; i++) {
            clothOf();
        }
        Due.end();
    }

    /** A new one for each few hundred calls: behind the 512th nothing is promised. */
    private static SewnYear of(String coat) {
        SewnYear x = new SewnYear();
        Due.is(coat, Tape.tell(x, 0, coat), 0);
        return x;
    }

    private static SewnYear of(String coat, String life) {
        SewnYear x = of(coat);
        Due.is(life, Tape.tell(x, 1, life), 0);
        return x;
    }

    private static int upTo(int least, int most) {
        return least + DICE.nextInt(most - least + 1);
    }

    private static String coat(int n, boolean anyAfter) {
        StringBuilder text = new StringBuilder();
        seams = n;
        int mostStitches = upTo(1, 9);
        int mostColour = upTo(0, 3);
        for (int s = 0; s < n; s++) {
            STITCHES[s] = upTo(1, mostStitches);
            COLOURS[s] = upTo(0, mostColour);
            EASES[s] = upTo(0, 9);
            text.append("seam ").append(STITCHES[s]).append(' ').append(COLOURS[s]).append(' ').append(EASES[s]).append(";");
        }
        int[] rank = new int[n];
        List<Integer> left = new ArrayList<>();
        for (int s = 0; s < n; s++) {
            left.add(DICE.nextInt(left.size() + 1), s);
        }
        for (int s = 0; s < n; s++) {
            rank[s] = left.indexOf(s);
        }
        int dense = upTo(0, 6);
        for (int a = 0; a < n; a++) {
            for (int b = 0; b < n; b++) {
                AFTER[a][b] = a != b && (anyAfter || rank[a] > rank[b]) && DICE.nextInt(10) < dense;
                if (AFTER[a][b]) {
                    text.append("after ").append(a).append(' ').append(b).append("; ");
                }
            }
        }
        pace = upTo(1, 9);
        text.append("pace ").append(pace).append(";");
        for (int d = 0; d < 200; d++) {
            GROWTHS[d] = 0;
        }
        int grows = upTo(0, 7);
        for (int i = 0; i < grows; i++) {
            int d = upTo(0, 14);
            GROWTHS[d] = upTo(0, 9);
            text.append("grows ").append(d).append(' ').append(GROWTHS[d]).append(";\n");
        }
        return text.toString();
    }

    private static void rows(int[] row, int at, int of, List<int[]> all) {
        if (at == row.length) {
            all.add(row.clone());
            return;
        }
        for (int v = 0; v < of; v++) {
            boolean used = false;
            for (int i = 0; i < at; i++) {
                used |= row[i] == v;
            }
            if (!used) {
                row[at] = v;
                rows(row, at + 1, of, all);
            }
        }
    }

    private static boolean isOrder(int[] row) {
        for (int i = 0; i < row.length; i++) {
            for (int j = i + 1; j < row.length; j++) {
                if (AFTER[row[i]][row[j]]) {
                    return false;
                }
            }
        }
        return true;
    }

    private static int at(int[] row, int s) {
        for (int i = 0; i < row.length; i++) {
            if (row[i] == s) {
                return i;
            }
        }
        return -1;
    }

    private static void ordersOf(SewnYear x) {
        List<int[]> all = new ArrayList<>();
        rows(new int[seams], 0, seams, all);
        orders = new ArrayList<>();
        for (int[] row : all) {
            if (isOrder(row)) {
                orders.add(row);
            }
        }
        Due.is("orders", x.orders(0), orders.size());
        for (int s = 0; s < seams; s++) {
            int early = 99;
            int late = -1;
            for (int[] row : orders) {
                early = Math.min(early, at(row, s));
                late = Math.max(late, at(row, s));
            }
            boolean none = orders.isEmpty();
            Due.is("first", x.order(0, s, 0), none ? -1 : orders.get(0)[s]);
            Due.is("early", x.order(0, s, 1), none ? -1 : early);
            Due.is("late", x.order(0, s, 2), late);
        }
    }

    private static int bursts(int[] row) {
        int bursts = 0;
        List<Integer> days = new ArrayList<>();
        int day = 0;
        int today = 0;
        for (int s : row) {
            for (int k = 0; k < STITCHES[s]; k++) {
                if (today == pace) {
                    day++;
                    today = 0;
                }
                today++;
            }
            days.add(day);
        }
        for (int i = 0; i < row.length; i++) {
            int growth = 0;
            for (int d = days.get(i) + 1; d < 100; d++) {
                growth += GROWTHS[d];
            }
            if (growth > EASES[row[i]]) {
                bursts++;
            }
        }
        return bursts;
    }

    private static int changes(int[] row) {
        int changes = 0;
        for (int i = 1; i < row.length; i++) {
            changes += COLOURS[row[i]] != COLOURS[row[i - 1]] ? 1 : 0;
        }
        return changes;
    }

    private static int chain(int s) {
        int most = 0;
        for (int b = 0; b < seams; b++) {
            if (AFTER[s][b]) {
                most = Math.max(most, chain(b));
            }
        }
        return most + STITCHES[s];
    }

    private static int firstDayFree(int s) {
        int from = 0;
        for (int b = 0; b < seams; b++) {
            if (AFTER[s][b]) {
                from = Math.max(from, firstDayFree(b));
            }
        }
        int left = STITCHES[s];
        while (left > 0) {
            left -= pace;
            from++;
        }
        return from;
    }

    private static void sewnOf(SewnYear x) {
        if (orders.isEmpty()) {
            for (int what = 0; what < 4; what++) {
                Due.is("sewn", x.sewn(0, what), -1);
            }
            return;
        }
        int[] least = null;
        int[] threaded = null;
        for (int[] row : orders) {
            least = least == null || bursts(row) < bursts(least) ? row : least;
            threaded = threaded == null || changes(row) < changes(threaded) ? row : threaded;
        }
        int chain = 0;
        int team = 0;
        for (int s = 0; s < seams; s++) {
            chain = Math.max(chain, chain(s));
            team = Math.max(team, firstDayFree(s));
        }
        Due.is("LEAST", x.sewn(0, 0), bursts(least));
        Due.is("THREADS", x.sewn(0, 1), changes(threaded));
        Due.is("CHAIN", x.sewn(0, 2), chain);
        Due.is("TEAM", x.sewn(0, 3), team);
        for (int k = 0; k < seams; k++) {
            Due.is("by LEAST", x.order(0, k, 3), least[k]);
            Due.is("THREADED", x.order(0, k, 4), threaded[k]);
        }
    }

    private static void partedOf(SewnYear x) {
        for (int a = 0; a < seams; a++) {
            for (int b = 0; b < seams; b++) {
                int least = 99;
                int side = -1;
                for (int set = 0; set < 1 << seams; set++) {
                    boolean parts = (set & 1 << a) != 0 && (set & 1 << b) == 0;
                    int cut = 0;
                    for (int c = 0; c < seams; c++) {
                        for (int d = 0; d < c; d++) {
                            boolean apart = (set & 1 << c) != 0 != ((set & 1 << d) != 0);
                            cut += apart && (AFTER[c][d] || AFTER[d][c]) ? 1 : 0;
                        }
                    }
                    if (parts && cut < least) {
                        least = cut;
                        side = set;
                    }
                }
                Due.is("parted", x.parted(0, a, b, false), a == b ? -1 : least);
                Due.is("side", x.parted(0, a, b, true), side);
            }
        }
    }

    private static void needs(int s, boolean[] set) {
        for (int b = 0; b < seams; b++) {
            if (AFTER[s][b] && !set[b]) {
                set[b] = true;
                needs(b, set);
            }
        }
    }

    private static void underOf(SewnYear x) {
        for (int s = 0; s < seams; s++) {
            int bits = 0;
            for (int t = 0; t < seams; t++) {
                boolean[] set = new boolean[9];
                needs(t, set);
                bits |= set[s] ? 1 << t : 0;
            }
            boolean[] set = new boolean[9];
            needs(s, set);
            int stitches = STITCHES[s];
            for (int t = 0; t < seams; t++) {
                stitches += set[t] && t != s ? STITCHES[t] : 0;
            }
            int day = 0;
            while ((day + 1) * pace < stitches) {
                day++;
            }
            Due.is("under", x.under(0, s, 0), orders.isEmpty() ? -1 : bits);
            Due.is("soonest", x.under(0, s, 1), orders.isEmpty() ? -1 : day);
        }
    }

    private static void handsOf(SewnYear x) {
        for (int k = 1; k <= 4; k++) {
            Due.is("hands", x.hands(0, k), orders.isEmpty() ? -1 : hands(k));
        }
    }

    private static int hands(int k) {
        int[] at = new int[k];
        java.util.Arrays.fill(at, -1);
        int[] left = STITCHES.clone();
        boolean[] begun = new boolean[9];
        boolean[] done = new boolean[9];
        int days = 0;
        for (int left1 = seams; left1 > 0; days++) {
            for (int t = 0; t < k; t++) {
                for (int s = 0; s < seams && at[t] < 0; s++) {
                    boolean may = !begun[s];
                    for (int b = 0; b < seams; b++) {
                        may &= !AFTER[s][b] || done[b];
                    }
                    if (may) {
                        at[t] = s;
                        begun[s] = true;
                    }
                }
            }
            for (int t = 0; t < k; t++) {
                if (at[t] >= 0) {
                    left[at[t]] -= pace;
                    if (left[at[t]] <= 0) {
                        done[at[t]] = true;
                        at[t] = -1;
                        left1--;
                    }
                }
            }
        }
        return days;
    }

    private static int packed(int s, int colour, int length, List<Integer> spools) {
        if (s == seams) {
            return spools.size();
        }
        if (COLOURS[s] != colour) {
            return packed(s + 1, colour, length, spools);
        }
        int least = 99;
        for (int i = 0; i < spools.size(); i++) {
            if (spools.get(i) + STITCHES[s] <= length) {
                spools.set(i, spools.get(i) + STITCHES[s]);
                least = Math.min(least, packed(s + 1, colour, length, spools));
                spools.set(i, spools.get(i) - STITCHES[s]);
            }
        }
        spools.add(STITCHES[s]);
        least = Math.min(least, packed(s + 1, colour, length, spools));
        spools.remove(spools.size() - 1);
        return least;
    }

    private static void spoolsOf(SewnYear x) {
        for (int length = 1; length <= 20; length++) {
            int sum = 0;
            for (int s = 0; s < seams; s++) {
                sum = STITCHES[s] > length ? -999 : sum;
            }
            for (int colour = 0; colour < 4; colour++) {
                sum += packed(0, colour, length, new ArrayList<>());
            }
            Due.is("spools", x.spools(0, length), sum < 0 ? -1 : sum);
        }
    }

    private static void grownOf(SewnYear x) {
        for (int n = -1; n < 30; n++) {
            int day = -1;
            int sum = 0;
            for (int d = 0; d < 100 && day < 0; d++) {
                sum += GROWTHS[d];
                day = sum >= n ? d : -1;
            }
            Due.is("grown", x.grown(0, n), day);
        }
    }

    private static void sightsOf(SewnYear x) {
        int n = upTo(0, 3);
        int[][] facts = new int[n][];
        StringBuilder text = new StringBuilder();
        boolean told = true;
        for (int k = 0; k < n; k++) {
            int kind = upTo(0, 2);
            int a = upTo(0, seams == 1 ? 1 : seams - 1);
            int b = upTo(0, kind == 0 && seams == 1 ? 1 : seams - 1);
            if (kind == 0 && a == b) {
                b = b == 0 ? 1 : b - 1;
            }
            facts[k] = new int[] {kind, a, b};
            told &= a < seams && (kind != 0 || b < seams);
            text.append(kind == 0 ? "before " : kind == 1 ? "at " : "not ").append(a).append(' ').append(b).append(';');
        }
        Due.is("sight", Tape.tell(x, 3, text.toString()), 0);
        List<int[]> fit = new ArrayList<>();
        for (int[] row : orders) {
            boolean fits = true;
            for (int[] f : facts) {
                fits &= f[0] == 0 ? at(row, f[1]) < at(row, f[2]) : (at(row, f[1]) == f[2]) == (f[0] == 1);
            }
            if (fits) {
                fit.add(row);
            }
        }
        Due.is("fits", x.fits(0, 0, -1, 0), told ? fit.size() : -1);
        for (int p = 0; p < seams; p++) {
            int sure = -1;
            for (int s = 0; s < seams; s++) {
                int holds = 0;
                for (int[] row : fit) {
                    holds += row[p] == s ? 1 : 0;
                }
                sure = holds == fit.size() && holds > 0 ? s : sure;
                Due.is("holds", x.fits(0, 0, s, p), told ? holds : -1);
            }
            Due.is("sure", x.sure(0, 0, p), told ? sure : -1);
        }
        int ask = -1;
        int least = Integer.MAX_VALUE;
        for (int a = 0; a < seams; a++) {
            for (int b = a + 1; b < seams; b++) {
                int ahead = 0;
                for (int[] row : fit) {
                    ahead += at(row, a) < at(row, b) ? 1 : 0;
                }
                int greater = Math.max(ahead, fit.size() - ahead);
                if (greater < least) {
                    least = greater;
                    ask = 9 * a + b;
                }
            }
        }
        Due.is("ask", x.sure(0, 0, -1), told && !fit.isEmpty() ? ask : -1);
    }

    /** A LIFE, its days kept as rows of stitches: a second telling of Term 2. */
    private static final class Worn {
        int day;
        int girth = GROWTHS[0];
        int today;
        int bursts;
        int waste;
        final int[] has = new int[9];
        final Integer[] fits = new Integer[9];

        boolean does(int kind, int n) {
            if (kind <= 2) {
                if (n >= seams || kind == 0 && !sews(n) || kind != 0 && has[n] == 0) {
                    return false;
                }
                if (kind == 1) {
                    for (int s = 0; s < seams; s++) {
                        if (AFTER[s][n] && has[s] > 0) {
                            return false;
                        }
                    }
                    waste += has[n] > 1 ? 2 : 1;
                    has[n] -= has[n] > 1 ? 2 : 1;
                    fits[n] = null;
                } else if (kind == 2) {
                    waste += has[n];
                    has[n] = 0;
                    fits[n] = null;
                }
                return true;
            }
            if (kind == 5) {
                day++;
                today = 0;
            }
            girth += kind == 3 ? n : kind == 4 ? -n : GROWTHS[day];
            for (int s = 0; s < seams; s++) {
                if (fits[s] != null && girth > fits[s] + EASES[s]) {
                    bursts++;
                    waste += STITCHES[s];
                    has[s] = 0;
                    fits[s] = null;
                }
            }
            return true;
        }

        boolean sews(int n) {
            if (fits[n] != null || today == pace) {
                return false;
            }
            for (int b = 0; b < seams; b++) {
                if (AFTER[n][b] && fits[b] == null) {
                    return false;
                }
            }
            today++;
            has[n]++;
            if (has[n] == STITCHES[n]) {
                fits[n] = girth;
            }
            return true;
        }

        void compare(String of, SewnYear x, int n, int seed, boolean drawn) {
            int whole = 0;
            for (int s = 0; s < seams; s++) {
                whole |= fits[s] != null ? 1 << s : 0;
            }
            int[] due = {day, girth, today, bursts, waste, whole};
            for (int what = 0; what < 6; what++) {
                Due.is(of + what, drawn ? x.drawn(0, seed, n, what) : x.state(0, 0, n, what), due[what]);
            }
            for (int s = 0; s < 9; s++) {
                int st = s < seams ? has[s] : -1000;
                int fi = s < seams && fits[s] != null ? fits[s] : -1000;
                Due.is(of + "stitches", drawn ? x.drawn(0, seed, n, 10 + s) : x.state(0, 0, n, 10 + s), st);
                Due.is(of + "fits", drawn ? x.drawn(0, seed, n, 20 + s) : x.state(0, 0, n, 20 + s), fi);
            }
        }
    }

    private static void livesOf(String coat) {
        String[] words = {"sew", "unpick", "tear", "grow", "shrink", "day"};
        Worn worn = new Worn();
        int[][] deeds = new int[upTo(0, 40)][];
        StringBuilder text = new StringBuilder();
        for (int k = 0; k < deeds.length; k++) {
            // Mostly such as can be: tried on the one that is worn.
            for (int tries = 0; tries < 12; tries++) {
                int kind = DICE.nextInt(3) > 0 ? 0 : upTo(0, 5);
                deeds[k] = new int[] {kind, kind == 3 || kind == 4 ? upTo(1, 3) : upTo(0, Math.min(8, seams))};
                if (worn.does(kind, deeds[k][1])) {
                    break;
                }
            }
            text.append(words[deeds[k][0]]).append(deeds[k][0] == 5 ? "" : " " + deeds[k][1]).append(";");
        }
        String life = text.toString();
        worn = new Worn();
        int stop = 0;
        worn.compare("state ", of(coat, life), 0, 0, false);
        while (stop < deeds.length && worn.does(deeds[stop][0], deeds[stop][1])) {
            stop++;
            worn.compare("state ", of(coat, life), stop, 0, false);
        }
        SewnYear x = of(coat, life);
        Due.is("stop", x.stop(0, 0), stop);
        Due.is("behind stop", x.state(0, 0, stop + 1, 0), -1000);
    }

    private static void drawnOf(SewnYear x) {
        int seed = DICE.nextInt();
        int n = upTo(0, 60);
        Worn worn = new Worn();
        long v = seed & 0xffffffffL;
        for (int i = 0; i < n; i++) {
            v = v * 1103515245L + 12345L & 0xffffffffL;
            int what = (int) ((v >> 16) % 10);
            if (what < 8) {
                v = v * 1103515245L + 12345L & 0xffffffffL;
            }
            int number = (int) ((v >> 16) % (what < 7 ? seams : 3));
            worn.does(what < 6 ? 0 : what == 6 ? 1 : what == 7 ? 3 : 5, what == 7 ? number + 1 : number);
        }
        worn.compare("drawn ", x, n, seed, true);
    }

    private static int ways(int a, int b, int miles) {
        int days = 0;
        for (int d = Math.abs(a / 10 - b / 10) + Math.abs(a % 10 - b % 10); d > 0; d -= miles) {
            days++;
        }
        return days;
    }

    private static int[] doneOf(int[] row, int start, int speed, int miles, int[][] w) {
        int[] done = new int[row.length];
        int day = 0;
        int place = start;
        for (int i = 0; i < row.length; i++) {
            int[] one = w[row[i]];
            day += ways(place, one[0], miles);
            int span = 0;
            for (int left = one[1]; left > 0; left -= speed) {
                span++;
            }
            boolean away = false;
            for (int d = day; d < day + span; d++) {
                away |= d >= one[3] && d <= one[4];
            }
            day = (away ? one[4] + 1 : day) + span;
            done[i] = day - 1;
            place = one[0];
        }
        return done;
    }

    private static int soon(List<int[]> all, int start, int speed, int miles, int[][] w, int[][] keep) {
        int soon = Integer.MAX_VALUE;
        for (int[] row : all) {
            int last = doneOf(row, start, speed, miles, w)[row.length - 1];
            if (last < soon) {
                soon = last;
                keep[0] = row;
            }
        }
        return soon;
    }

    private static void townOf(int n) {
        int start = upTo(0, 99);
        int speed = upTo(1, 9);
        int miles = upTo(1, 9);
        int[][] w = new int[n][];
        StringBuilder text = new StringBuilder();
        text.append("tailor ").append(start % 10).append(' ').append(start / 10).append(";speed ").append(speed)
            .append(";miles ").append(miles).append(';');
        int far = upTo(10, 99);
        for (int i = 0; i < n; i++) {
            int from = DICE.nextInt(3) == 0 ? -1 : upTo(0, 40);
            w[i] = new int[] {upTo(0, 99), upTo(1, 30), upTo(0, far), from, from < 0 ? -1 : from + upTo(0, 20)};
            text.append("wearer ").append(w[i][0] % 10).append(' ').append(w[i][0] / 10).append(' ').append(w[i][1])
                .append(' ').append(w[i][2]).append(';');
            if (from >= 0) {
                text.append("away ").append(i).append(' ').append(from).append(' ').append(w[i][4]).append(';');
            }
        }
        SewnYear x = new SewnYear();
        Due.is(text.toString(), Tape.tell(x, 2, text.toString()), 0);
        roundsOf(x, n, start, speed, miles, w);
        for (int a = 0; a < n; a++) {
            for (int b = 0; b < n; b++) {
                Due.is("way", x.way(0, a, b), ways(w[a][0], w[b][0], miles));
            }
        }
    }

    private static void roundsOf(SewnYear x, int n, int start, int speed, int miles, int[][] w) {
        int[] most = new int[0];
        List<int[]> all = new ArrayList<>();
        for (int length = 1; length <= n; length++) {
            all = new ArrayList<>();
            rows(new int[length], 0, n, all);
            for (int[] row : all) {
                int[] done = doneOf(row, start, speed, miles, w);
                boolean inTime = true;
                int number = 0;
                for (int i = 0; i < length; i++) {
                    inTime &= done[i] <= w[row[i]][2];
                    number = number * 6 + row[i];
                }
                if (DICE.nextInt(20) == 0) {
                    int k = DICE.nextInt(length);
                    Due.is("done", x.done(0, number, length, k), done[k]);
                }
                most = inTime && length > most.length ? row : most;
            }
        }
        int late = Integer.MAX_VALUE;
        int guild = -1;
        for (int[] row : all) {
            int[] done = doneOf(row, start, speed, miles, w);
            int sum = 0;
            boolean byDue = true;
            for (int i = 0; i < n; i++) {
                sum += Math.max(0, done[i] - w[row[i]][2]);
                byDue &= i == 0 || w[row[i - 1]][2] * 10 + row[i - 1] < w[row[i]][2] * 10 + row[i];
            }
            late = Math.min(late, sum);
            guild = byDue ? sum : guild;
        }
        int[][] keep = new int[1][];
        int[] due = {most.length, soon(all, start, speed, miles, w, keep), late, guild};
        for (int what = 0; what < 4; what++) {
            Due.is("rounds " + what, x.rounds(0, what), due[what]);
        }
        for (int k = 0; k < 10; k++) {
            Due.is("most " + k, x.rounds(0, 10 + k), k < most.length ? most[k] : -1);
            Due.is("soon " + k, x.rounds(0, 20 + k), k < n ? keep[0][k] : -1);
        }
        int least = Integer.MAX_VALUE;
        int place = -1;
        for (int at = 0; at < 100; at++) {
            int soon = soon(all, at, speed, miles, w, keep);
            if (soon < least) {
                least = soon;
                place = at;
            }
        }
        Due.is("home", x.home(0, false), least);
        Due.is("home place", x.home(0, true), place);
    }

    /** By every month, grown or not: the parts of ten to the power of n for each growth. */
    private static BigInteger[] growths(int n, int p) {
        BigInteger[] parts = {BigInteger.ONE};
        for (int month = 0; month < n; month++) {
            BigInteger[] next = new BigInteger[parts.length + 1];
            java.util.Arrays.fill(next, BigInteger.ZERO);
            for (int k = 0; k < parts.length; k++) {
                next[k] = next[k].add(parts[k].multiply(BigInteger.valueOf(10 - p)));
                next[k + 1] = next[k + 1].add(parts[k].multiply(BigInteger.valueOf(p)));
            }
            parts = next;
        }
        return parts;
    }

    private static void clothOf() {
        SewnYear x = new SewnYear();
        int n = upTo(1, 12);
        int p = upTo(0, 10);
        int c = upTo(0, 99);
        int d = upTo(0, 99);
        BigInteger[] parts = growths(n, p);
        BigInteger all = BigInteger.TEN.pow(n);
        BigInteger least = null;
        int best = -1;
        for (int b = 0; b <= n; b++) {
            BigInteger cost = BigInteger.ZERO;
            BigInteger enough = BigInteger.ZERO;
            for (int k = 0; k <= n; k++) {
                int one = c * b + d * Math.max(0, k - b);
                cost = cost.add(parts[k].multiply(BigInteger.valueOf(one)));
                enough = k <= b ? enough.add(parts[k]) : enough;
            }
            if (least == null || cost.compareTo(least) < 0) {
                least = cost;
                best = b;
            }
            BigInteger g = enough.gcd(all);
            Due.is("enough N", x.enough(n, p, b, false), enough.divide(g).longValueExact());
            Due.is("enough D", x.enough(n, p, b, true), all.divide(g).longValueExact());
        }
        BigInteger g = least.gcd(all);
        Due.is("best", x.cloth(n, p, c, d, 0), best);
        Due.is("mean N", x.cloth(n, p, c, d, 1), least.divide(g).longValueExact());
        Due.is("mean D", x.cloth(n, p, c, d, 2), all.divide(g).longValueExact());
    }
}
