import java.math.BigInteger;
import java.util.ArrayList;
import java.util.Arrays;
import java.util.HashMap;
import java.util.List;
import java.util.Map;

/**
 * The document told a second time, without a thought of cost: what is told is kept as rows of lines that never change,
 * and each answer is reckoned from them anew. It answers all calls, those with wrong arguments too.
 */
final class PlainYear {
    private static final int NONE = -1;
    private static final int NOT_SUCH = -2;
    private static final int NO_STATE = -1000;

    /** The lines of each sort: a word, then the least and the most of each NUMBER. */
    private static final String[][] LINES = {
        {"seam 1 9 0 3 0 9", "after 0 8 0 8", "grows 0 99 0 9", "pace 1 9"},
        {"sew 0 8", "unpick 0 8", "tear 0 8", "grow 1 9", "shrink 1 9", "day"},
        {"speed 1 9", "miles 1 9", "tailor 0 9 0 9", "wearer 0 9 0 9 1 30 0 99", "away 0 5 0 99 0 99"},
        {"before 0 8 0 8", "at 0 8 0 8", "not 0 8 0 8"}};
    private static final List<String> DEEDS = List.of("sew", "unpick", "tear", "grow", "shrink", "day");
    private static final List<String> FACTS = List.of("before", "at", "not");

    /** A line of a text. */
    private record Line(String word, int[] numbers) {
        int number(int i) {
            return numbers[i];
        }
    }

    /** A token: a word, a row of one or two digits, a ;, or what is none of these. */
    private record Token(String signs, int place) {
        boolean isNumber() {
            return signs.matches("[0-9]{1,2}");
        }
    }

    /** All that an image holds. */
    private record Told(String tape, int fault, int place, List<List<List<Line>>> texts) {
    }

    private Told now = new Told("", 0, NONE, List.of(List.of(), List.of(), List.of(), List.of()));
    private final Told[] images = new Told[3];

    // The tape, texts, images

    int feed(int... words) {
        if (now.tape.length() > 580) {
            return NONE;
        }
        StringBuilder tape = new StringBuilder(now.tape);
        for (int word : words) {
            String hex = String.format("%08x", word);
            for (int i = 0; i < 8; i += 2) {
                tape.append((char) Integer.parseInt(hex.substring(i, i + 2), 16));
            }
        }
        now = new Told(tape.toString(), now.fault, now.place, now.texts);
        return tape.length();
    }

    int end(int n) {
        if (n < 0 || n > now.tape.length()) {
            return NONE;
        }
        now = new Told(now.tape.substring(0, n), now.fault, now.place, now.texts);
        return n;
    }

    int count(int sort) {
        return sort >= 0 && sort <= 3 ? now.texts.get(sort).size() : NOT_SUCH;
    }

    int fault(int what) {
        return what == 0 ? now.fault : what == 1 ? now.place : NONE;
    }

    boolean image(int k) {
        if (k < 0 || k > 2) {
            return false;
        }
        images[k] = now;
        return true;
    }

    boolean again(int k) {
        if (k < 0 || k > 2 || images[k] == null) {
            return false;
        }
        now = images[k];
        return true;
    }

    int text(int sort, int at) {
        String tape = now.tape;
        now = new Told("", 0, NONE, now.texts);
        int there = count(sort);
        if (there < 0 || at < NONE || at == NONE && there == 2 || at >= there) {
            return NOT_SUCH;
        }
        List<Line> lines = new ArrayList<>();
        int[] fault = faultOf(sort, tape, lines);
        if (fault[0] != 0) {
            now = new Told("", fault[0], fault[1], now.texts);
            return NONE;
        }
        List<List<List<Line>>> texts = new ArrayList<>(now.texts);
        List<List<Line>> ofSort = new ArrayList<>(texts.get(sort));
        int number = at == NONE ? there : at;
        if (at == NONE) {
            ofSort.add(lines);
        } else {
            ofSort.set(at, lines);
        }
        texts.set(sort, ofSort);
        now = new Told("", 0, NONE, texts);
        return number;
    }

    private static List<Token> tokens(String tape) {
        List<Token> all = new ArrayList<>();
        java.util.regex.Matcher m = java.util.regex.Pattern.compile("[a-z]+|[0-9]+|[^\\n ]", java.util.regex.Pattern.DOTALL)
            .matcher(tape);
        while (m.find()) {
            all.add(new Token(m.group(), m.start()));
        }
        all.add(new Token("", tape.length()));
        return all;
    }

    private static String[] shapeOf(int sort, String word) {
        for (String line : LINES[sort]) {
            if (line.split(" ")[0].equals(word)) {
                return line.split(" ");
            }
        }
        return null;
    }

    /** FAULT and place; fills in the lines. */
    private static int[] faultOf(int sort, String tape, List<Line> lines) {
        List<Token> tokens = tokens(tape);
        List<int[]> faults = new ArrayList<>();
        int t = 0;
        while (!tokens.get(t).signs.isEmpty()) {
            Token first = tokens.get(t);
            String[] shape = shapeOf(sort, first.signs);
            if (shape == null) {
                return new int[] {1, first.place};
            }
            int n = (shape.length - 1) / 2;
            int[] numbers = new int[n];
            int[] places = new int[n];
            for (int i = 0; i < n; i++) {
                Token number = tokens.get(t + 1 + i);
                if (!number.isNumber()) {
                    return new int[] {1, number.place};
                }
                numbers[i] = Integer.parseInt(number.signs);
                places[i] = number.place;
            }
            if (!tokens.get(t + 1 + n).signs.equals(";")) {
                return new int[] {1, tokens.get(t + 1 + n).place};
            }
            t += n + 2;
            for (int i = 0; i < n; i++) {
                int least = Integer.parseInt(shape[1 + 2 * i]);
                int most = Integer.parseInt(shape[2 + 2 * i]);
                if (numbers[i] < least || numbers[i] > most) {
                    faults.add(new int[] {2, places[i]});
                }
            }
            String word = first.signs;
            if ((word.equals("after") || word.equals("before")) && numbers[0] == numbers[1]) {
                faults.add(new int[] {2, places[1]});
            }
            if (word.equals("away") && numbers[2] < numbers[1]) {
                faults.add(new int[] {2, places[2]});
            }
            lines.add(new Line(word, numbers));
            int most = word.equals("seam") ? 9 : sort == 1 ? 40 : word.equals("wearer") ? 6 : sort == 3 ? 10 : 9999;
            boolean isOfAll = sort == 1 || sort == 3;
            if ((isOfAll ? lines.size() : all(lines, word).size()) > most) {
                faults.add(new int[] {3, first.place});
            }
        }
        if (faults.isEmpty()) {
            return missing(lines) ? new int[] {4, tape.length()} : new int[] {0, NONE};
        }
        faults.sort((a, b) -> a[1] != b[1] ? a[1] - b[1] : a[0] - b[0]);
        return faults.get(0);
    }

    private static boolean missing(List<Line> lines) {
        for (Line after : all(lines, "after")) {
            if (Math.max(after.number(0), after.number(1)) >= all(lines, "seam").size()) {
                return true;
            }
        }
        for (Line away : all(lines, "away")) {
            if (away.number(0) >= all(lines, "wearer").size()) {
                return true;
            }
        }
        return false;
    }

    private static List<Line> all(List<Line> lines, String word) {
        List<Line> some = new ArrayList<>();
        for (Line line : lines) {
            if (line.word.equals(word)) {
                some.add(line);
            }
        }
        return some;
    }

    private static Line latest(List<Line> lines, String word, int first) {
        Line found = null;
        for (Line line : all(lines, word)) {
            found = first == NONE || line.number(0) == first ? line : found;
        }
        return found;
    }

    private List<Line> lines(int sort, int k) {
        return k >= 0 && k < count(sort) ? now.texts.get(sort).get(k) : null;
    }

    // COATS

    private static int seams(List<Line> coat) {
        return all(coat, "seam").size();
    }

    private static int pace(List<Line> coat) {
        Line pace = latest(coat, "pace", NONE);
        return pace == null ? 1 : pace.number(0);
    }

    private static int growth(List<Line> coat, int day) {
        Line grows = latest(coat, "grows", day);
        return grows == null ? 0 : grows.number(1);
    }

    private static int ofSeam(List<Line> coat, int s, int i) {
        return all(coat, "seam").get(s).number(i);
    }

    private static boolean isAfter(List<Line> coat, int a, int b) {
        for (Line after : all(coat, "after")) {
            if (after.number(0) == a && after.number(1) == b) {
                return true;
            }
        }
        return false;
    }

    int coat(int coat, int what) {
        List<Line> c = lines(0, coat);
        if (c == null || what < 0) {
            return NONE;
        }
        if (what < 2) {
            return what == 0 ? seams(c) : pace(c);
        }
        if (what >= 100) {
            return what < 200 ? growth(c, what - 100) : NONE;
        }
        int s = what % 10;
        if (what < 10 || what >= 50 || s >= seams(c)) {
            return NONE;
        }
        if (what < 40) {
            return ofSeam(c, s, what / 10 - 1);
        }
        int bits = 0;
        for (int b = 0; b < 9; b++) {
            bits += isAfter(c, s, b) ? 1 << b : 0;
        }
        return bits;
    }

    // LIVES

    int deed(int life, int k, int what) {
        List<Line> l = lines(1, life);
        if (l == null || k == NONE && what != 0) {
            return NOT_SUCH;
        }
        if (k == NONE) {
            return l.size();
        }
        if (k < 0 || k >= l.size() || what < 0 || what > 1) {
            return NOT_SUCH;
        }
        Line deed = l.get(k);
        return what == 0 ? DEEDS.indexOf(deed.word) : deed.numbers.length == 0 ? NONE : deed.number(0);
    }

    /** A COAT as it is worn; a SEAM that is WHOLE has a GIRTH that it fits. */
    private static final class Worn {
        final List<Line> coat;
        final int n;
        int day = 0;
        int girth;
        int today = 0;
        int burst = 0;
        int waste = 0;
        final int[] has = new int[9];
        final Integer[] fits = new Integer[9];

        Worn(List<Line> coat) {
            this.coat = coat;
            n = seams(coat);
            girth = growth(coat, 0);
        }

        boolean does(String word, int number) {
            switch (word) {
                case "day":
                    if (day == 99) {
                        return false;
                    }
                    day++;
                    today = 0;
                    grow(growth(coat, day));
                    return true;
                case "grow":
                    grow(number);
                    return true;
                case "shrink":
                    grow(-number);
                    return true;
                case "sew":
                    return number < n && sew(number);
                default:
                    return number < n && has[number] > 0 && lose(word, number);
            }
        }

        void grow(int more) {
            girth += more;
            for (int s = 0; s < n; s++) {
                if (fits[s] != null && girth > fits[s] + ofSeam(coat, s, 2)) {
                    burst++;
                    waste += has[s];
                    has[s] = 0;
                    fits[s] = null;
                }
            }
        }

        boolean sew(int s) {
            boolean may = fits[s] == null && today < pace(coat);
            for (int b = 0; b < n; b++) {
                may &= !isAfter(coat, s, b) || fits[b] != null;
            }
            if (may) {
                today++;
                has[s]++;
                fits[s] = has[s] == ofSeam(coat, s, 0) ? (Integer) girth : null;
            }
            return may;
        }

        boolean lose(String word, int s) {
            for (int a = 0; a < n && word.equals("unpick"); a++) {
                if (isAfter(coat, a, s) && has[a] > 0) {
                    return false;
                }
            }
            int left = word.equals("tear") ? 0 : Math.max(0, has[s] - 2);
            waste += has[s] - left;
            has[s] = left;
            fits[s] = null;
            return true;
        }

        int tell(int what) {
            int whole = 0;
            for (int s = 0; s < n; s++) {
                whole += fits[s] != null ? 1 << s : 0;
            }
            int[] first = {day, girth, today, burst, waste, whole};
            if (what >= 0 && what < 6) {
                return first[what];
            }
            if (what >= 10 && what < 10 + n) {
                return has[what - 10];
            }
            return what >= 20 && what < 20 + n && fits[what - 20] != null ? fits[what - 20] : NO_STATE;
        }
    }

    int stop(int coat, int life) {
        List<Line> c = lines(0, coat);
        List<Line> l = lines(1, life);
        if (c == null || l == null) {
            return NONE;
        }
        Worn worn = new Worn(c);
        int k = 0;
        while (k < l.size() && worn.does(l.get(k).word, l.get(k).numbers.length == 0 ? 0 : l.get(k).number(0))) {
            k++;
        }
        return k;
    }

    int state(int coat, int life, int n, int what) {
        if (n < 0 || n > stop(coat, life)) {
            return NO_STATE;
        }
        Worn worn = new Worn(lines(0, coat));
        for (Line deed : lines(1, life).subList(0, n)) {
            worn.does(deed.word, deed.numbers.length == 0 ? 0 : deed.number(0));
        }
        return worn.tell(what);
    }

    int drawn(int coat, int seed, int n, int what) {
        List<Line> c = lines(0, coat);
        if (c == null || n < 0 || n > 60) {
            return NO_STATE;
        }
        BigInteger[] x = {BigInteger.valueOf(seed)};
        Worn worn = new Worn(c);
        for (int i = 0; i < n; i++) {
            int kind = below(x, 10);
            if (kind <= 6 && worn.n > 0) {
                worn.does(kind < 6 ? "sew" : "unpick", below(x, worn.n));
            } else if (kind == 7) {
                worn.does("grow", 1 + below(x, 3));
            } else if (kind > 7) {
                worn.does("day", 0);
            }
        }
        return worn.tell(what);
    }

    private static int below(BigInteger[] x, int n) {
        x[0] = x[0].multiply(BigInteger.valueOf(1103515245)).add(BigInteger.valueOf(12345)).mod(BigInteger.TWO.pow(32));
        return x[0].divide(BigInteger.TWO.pow(16)).mod(BigInteger.valueOf(n)).intValue();
    }

    // ORDERS

    private final Map<List<Line>, List<int[]>> ordersOf = new HashMap<>();

    /** All ORDERS, the first by numbers first. */
    private List<int[]> orders(List<Line> coat) {
        // Lines are kept by the lists that hold them, which never change.
        return ordersOf.computeIfAbsent(coat, c -> {
            int n = seams(c);
            boolean[][] after = new boolean[n][n];
            for (int a = 0; a < n; a++) {
                for (int b = 0; b < n; b++) {
                    after[a][b] = isAfter(c, a, b);
                }
            }
            List<int[]> all = new ArrayList<>();
            rows(new int[n], 0, after, all);
            return all;
        });
    }

    private static void rows(int[] row, int at, boolean[][] after, List<int[]> all) {
        if (at == row.length) {
            all.add(row.clone());
            return;
        }
        for (int s = 0; s < row.length; s++) {
            boolean may = placeOf(row, at, s) == NONE;
            for (int b = 0; b < row.length; b++) {
                may &= !after[s][b] || placeOf(row, at, b) != NONE;
            }
            if (may) {
                row[at] = s;
                rows(row, at + 1, after, all);
            }
        }
    }

    private static int placeOf(int[] row, int length, int s) {
        for (int i = 0; i < length; i++) {
            if (row[i] == s) {
                return i;
            }
        }
        return NONE;
    }

    private static int placeOf(int[] row, int s) {
        return placeOf(row, row.length, s);
    }

    long orders(int coat) {
        List<Line> c = lines(0, coat);
        return c == null ? NONE : orders(c).size();
    }

    private interface Count {
        int of(int[] row);
    }

    private static int[] least(List<int[]> rows, Count count) {
        int[] best = rows.get(0);
        int least = count.of(best);
        for (int[] row : rows) {
            int n = count.of(row);
            if (n < least) {
                least = n;
                best = row;
            }
        }
        return best;
    }

    /** On which day the last of so many stitches is sewn. */
    private static int dayOf(int stitches, int pace) {
        int day = 0;
        while ((day + 1) * pace < stitches) {
            day++;
        }
        return day;
    }

    private static Count bursts(List<Line> c) {
        int[] behind = new int[100];
        for (int day = 98; day >= 0; day--) {
            behind[day] = behind[day + 1] + growth(c, day + 1);
        }
        int[][] seams = numbersOf(c);
        int pace = pace(c);
        return row -> {
            int stitches = 0;
            int bursts = 0;
            for (int s : row) {
                stitches += seams[s][0];
                bursts += behind[dayOf(stitches, pace)] > seams[s][2] ? 1 : 0;
            }
            return bursts;
        };
    }

    private static int[][] numbersOf(List<Line> c) {
        int[][] seams = new int[seams(c)][];
        for (int s = 0; s < seams.length; s++) {
            seams[s] = all(c, "seam").get(s).numbers;
        }
        return seams;
    }

    private static Count changes(List<Line> c) {
        int[][] seams = numbersOf(c);
        return row -> {
            int changes = 0;
            for (int i = 1; i < row.length; i++) {
                changes += seams[row[i]][1] != seams[row[i - 1]][1] ? 1 : 0;
            }
            return changes;
        };
    }

    int order(int coat, int k, int what) {
        List<Line> c = lines(0, coat);
        if (c == null || orders(c).isEmpty() || k < 0 || k >= seams(c)) {
            return NONE;
        }
        switch (what) {
            case 0: return orders(c).get(0)[k];
            case 1: return placeOf(least(orders(c), row -> placeOf(row, k)), k);
            case 2: return placeOf(least(orders(c), row -> -placeOf(row, k)), k);
            case 3: return least(orders(c), bursts(c))[k];
            case 4: return least(orders(c), changes(c))[k];
            default: return NONE;
        }
    }

    int sewn(int coat, int what) {
        List<Line> c = lines(0, coat);
        if (c == null || orders(c).isEmpty()) {
            return NONE;
        }
        int most = 0;
        switch (what) {
            case 0: return bursts(c).of(least(orders(c), bursts(c)));
            case 1: return changes(c).of(least(orders(c), changes(c)));
            case 2:
                for (int s = 0; s < seams(c); s++) {
                    most = Math.max(most, chain(c, s));
                }
                return most;
            case 3:
                for (int s = 0; s < seams(c); s++) {
                    most = Math.max(most, dayFree(c, s));
                }
                return most;
            default: return NONE;
        }
    }

    private static int chain(List<Line> c, int s) {
        int most = 0;
        for (int b = 0; b < seams(c); b++) {
            most = isAfter(c, s, b) ? Math.max(most, chain(c, b)) : most;
        }
        return most + ofSeam(c, s, 0);
    }

    /** The day behind the one on which a SEAM is done, each having a tailor of its own. */
    private static int dayFree(List<Line> c, int s) {
        int begins = 0;
        for (int b = 0; b < seams(c); b++) {
            begins = isAfter(c, s, b) ? Math.max(begins, dayFree(c, b)) : begins;
        }
        return begins + dayOf(ofSeam(c, s, 0), pace(c)) + 1;
    }

    int parted(int coat, int a, int b, boolean side) {
        List<Line> c = lines(0, coat);
        if (c == null || a == b || a < 0 || b < 0 || a >= seams(c) || b >= seams(c)) {
            return NONE;
        }
        int[] best = {Integer.MAX_VALUE, NONE};
        for (int set = 0; set < 1 << seams(c); set++) {
            if ((set & 1 << a) == 0 || (set & 1 << b) != 0) {
                continue;
            }
            int couples = 0;
            boolean[][] counted = new boolean[9][9];
            for (Line after : all(c, "after")) {
                int low = Math.min(after.number(0), after.number(1));
                int high = Math.max(after.number(0), after.number(1));
                if (!counted[low][high] && (set & 1 << low) == 0 != ((set & 1 << high) == 0)) {
                    counted[low][high] = true;
                    couples++;
                }
            }
            if (couples < best[0]) {
                best = new int[] {couples, set};
            }
        }
        return best[side ? 1 : 0];
    }

    private static boolean isUnder(List<Line> c, int a, int b, int steps) {
        for (int m = 0; m < seams(c) && steps > 0; m++) {
            if (isAfter(c, a, m) && (m == b || isUnder(c, m, b, steps - 1))) {
                return true;
            }
        }
        return false;
    }

    int under(int coat, int seam, int what) {
        List<Line> c = lines(0, coat);
        if (c == null || orders(c).isEmpty() || seam < 0 || seam >= seams(c) || what < 0 || what > 1) {
            return NONE;
        }
        int bits = 0;
        int stitches = ofSeam(c, seam, 0);
        for (int s = 0; s < seams(c); s++) {
            bits += isUnder(c, s, seam, 9) ? 1 << s : 0;
            stitches += isUnder(c, seam, s, 9) ? ofSeam(c, s, 0) : 0;
        }
        return what == 0 ? bits : dayOf(stitches, pace(c));
    }

    int hands(int coat, int k) {
        List<Line> c = lines(0, coat);
        if (c == null || orders(c).isEmpty() || k < 1 || k > 4) {
            return NONE;
        }
        int n = seams(c);
        int[] at = {NONE, NONE, NONE, NONE};
        int[] left = new int[n];
        boolean[] begun = new boolean[n];
        for (int s = 0; s < n; s++) {
            left[s] = ofSeam(c, s, 0);
        }
        int days = 0;
        while (Arrays.stream(left).anyMatch(l -> l > 0)) {
            days++;
            for (int t = 0; t < k; t++) {
                for (int s = 0; s < n && at[t] == NONE; s++) {
                    boolean may = !begun[s];
                    for (int b = 0; b < n; b++) {
                        may &= !isAfter(c, s, b) || left[b] <= 0;
                    }
                    if (may) {
                        begun[s] = true;
                        at[t] = s;
                    }
                }
            }
            for (int t = 0; t < k; t++) {
                if (at[t] != NONE) {
                    left[at[t]] -= pace(c);
                    at[t] = left[at[t]] <= 0 ? NONE : at[t];
                }
            }
        }
        return days;
    }

    int spools(int coat, int length) {
        List<Line> c = lines(0, coat);
        if (c == null || length < 1 || length > 60) {
            return NONE;
        }
        for (int s = 0; s < seams(c); s++) {
            if (ofSeam(c, s, 0) > length) {
                return NONE;
            }
        }
        int sum = 0;
        for (int colour = 0; colour < 4; colour++) {
            sum += packed(c, 0, colour, length, new ArrayList<>());
        }
        return sum;
    }

    private static int packed(List<Line> c, int s, int colour, int length, List<Integer> spools) {
        if (s == seams(c)) {
            return spools.size();
        }
        if (ofSeam(c, s, 1) != colour) {
            return packed(c, s + 1, colour, length, spools);
        }
        int least = 99;
        for (int i = 0; i <= spools.size(); i++) {
            List<Integer> next = new ArrayList<>(spools);
            if (i == spools.size()) {
                next.add(0);
            }
            next.set(i, next.get(i) + ofSeam(c, s, 0));
            if (next.get(i) <= length) {
                least = Math.min(least, packed(c, s + 1, colour, length, next));
            }
        }
        return least;
    }

    int grown(int coat, int n) {
        List<Line> c = lines(0, coat);
        int sum = 0;
        for (int day = 0; day < 100 && c != null; day++) {
            sum += growth(c, day);
            if (sum >= n) {
                return day;
            }
        }
        return NONE;
    }

    // SIGHTS

    int fact(int sight, int k, int what) {
        List<Line> s = lines(3, sight);
        if (s == null || k == NONE && what != 0) {
            return NOT_SUCH;
        }
        if (k == NONE) {
            return s.size();
        }
        if (k < 0 || k >= s.size() || what < 0 || what > 2) {
            return NOT_SUCH;
        }
        return what == 0 ? FACTS.indexOf(s.get(k).word) : s.get(k).number(what - 1);
    }

    /** The ORDERS that are as seen; null if there is none such, or a SEAM told of is not there. */
    private List<int[]> seen(int coat, int sight) {
        List<Line> c = lines(0, coat);
        List<Line> s = lines(3, sight);
        if (c == null || s == null) {
            return null;
        }
        List<int[]> fit = new ArrayList<>(orders(c));
        for (Line fact : s) {
            int a = fact.number(0);
            int b = fact.number(1);
            if (a >= seams(c) || fact.word.equals("before") && b >= seams(c)) {
                return null;
            }
            fit.removeIf(row -> switch (fact.word) {
                case "before" -> placeOf(row, a) > placeOf(row, b);
                case "at" -> placeOf(row, a) != b;
                default -> placeOf(row, a) == b;
            });
        }
        return fit;
    }

    private static long among(List<int[]> rows, java.util.function.Predicate<int[]> so) {
        return rows.stream().filter(so).count();
    }

    long fits(int coat, int sight, int seam, int place) {
        List<int[]> fit = seen(coat, sight);
        if (fit == null) {
            return NONE;
        }
        if (seam == NONE) {
            return fit.size();
        }
        int n = seams(lines(0, coat));
        return seam < 0 || seam >= n || place < 0 || place >= n ? NONE : among(fit, row -> row[place] == seam);
    }

    int sure(int coat, int sight, int place) {
        List<int[]> fit = seen(coat, sight);
        if (fit == null || fit.isEmpty()) {
            return NONE;
        }
        int n = seams(lines(0, coat));
        if (place != NONE) {
            boolean isPlace = place >= 0 && place < n;
            return isPlace && among(fit, row -> row[place] == fit.get(0)[place]) == fit.size() ? fit.get(0)[place] : NONE;
        }
        long least = Long.MAX_VALUE;
        int ask = NONE;
        for (int a = 0; a < n; a++) {
            for (int b = a + 1; b < n; b++) {
                int one = a;
                int other = b;
                long ahead = among(fit, row -> placeOf(row, one) < placeOf(row, other));
                long greater = Math.max(ahead, fit.size() - ahead);
                ask = greater < least ? 9 * a + b : ask;
                least = Math.min(least, greater);
            }
        }
        return ask;
    }

    // TOWNS

    private static int one(List<Line> town, String word, int i, int first) {
        Line line = latest(town, word, NONE);
        return line == null ? first : line.number(i);
    }

    private static List<Line> wearers(List<Line> town) {
        return all(town, "wearer");
    }

    int town(int town, int what) {
        List<Line> t = lines(2, town);
        if (t == null || what < 0) {
            return NOT_SUCH;
        }
        if (what < 5) {
            int[] first = {wearers(t).size(), one(t, "speed", 0, 3), one(t, "miles", 0, 2), one(t, "tailor", 0, 0),
                one(t, "tailor", 1, 0)};
            return first[what];
        }
        int w = what % 10;
        if (what < 10 || what >= 70 || w >= wearers(t).size()) {
            return NOT_SUCH;
        }
        if (what < 50) {
            return wearers(t).get(w).number(what / 10 - 1);
        }
        Line away = latest(t, "away", w);
        return away == null ? NONE : away.number(what / 10 - 4);
    }

    private static int days(int much, int each) {
        int days = 0;
        for (int left = much; left > 0; left -= each) {
            days++;
        }
        return days;
    }

    /** DONE of each of a ROUND, the TAILOR beginning at x, y. */
    private static int[] walk(List<Line> t, int x, int y, int[] round) {
        int[] done = new int[round.length];
        int day = 0;
        int atX = x;
        int atY = y;
        for (int i = 0; i < round.length; i++) {
            Line w = wearers(t).get(round[i]);
            day += days(Math.abs(atX - w.number(0)) + Math.abs(atY - w.number(1)), one(t, "miles", 0, 2));
            int sews = days(w.number(2), one(t, "speed", 0, 3));
            Line away = latest(t, "away", round[i]);
            boolean waits = false;
            for (int d = day; d < day + sews && away != null; d++) {
                waits |= d >= away.number(1) && d <= away.number(2);
            }
            day = (waits ? away.number(2) + 1 : day) + sews;
            done[i] = day - 1;
            atX = w.number(0);
            atY = w.number(1);
        }
        return done;
    }

    private static int[] walk(List<Line> t, int[] round) {
        return walk(t, one(t, "tailor", 0, 0), one(t, "tailor", 1, 0), round);
    }

    int done(int town, int round, int n, int k) {
        List<Line> t = lines(2, town);
        if (t == null || n < 1 || n > 6 || k < 0 || k >= n || round < 0) {
            return NONE;
        }
        String figures = Integer.toString(round, 6);
        if (figures.length() > n) {
            return NONE;
        }
        figures = "0".repeat(n - figures.length()) + figures;
        int[] row = new int[n];
        for (int i = 0; i < n; i++) {
            row[i] = figures.charAt(i) - '0';
            if (row[i] >= wearers(t).size() || figures.indexOf(figures.charAt(i)) != i) {
                return NONE;
            }
        }
        return walk(t, row)[k];
    }

    /** All ROUNDS of so many, the first by numbers first. */
    private static List<int[]> rounds(List<Line> t, int length) {
        int n = wearers(t).size();
        List<int[]> all = new ArrayList<>();
        all.add(new int[0]);
        for (int i = 0; i < length; i++) {
            List<int[]> longer = new ArrayList<>();
            for (int[] row : all) {
                for (int w = 0; w < n; w++) {
                    if (placeOf(row, w) == NONE) {
                        int[] next = Arrays.copyOf(row, row.length + 1);
                        next[row.length] = w;
                        longer.add(next);
                    }
                }
            }
            all = longer;
        }
        return all;
    }

    private static int late(List<Line> t, int[] round) {
        int[] done = walk(t, round);
        int sum = 0;
        for (int i = 0; i < round.length; i++) {
            sum += Math.max(0, done[i] - wearers(t).get(round[i]).number(3));
        }
        return sum;
    }

    private static int[] most(List<Line> t) {
        for (int length = wearers(t).size(); length > 0; length--) {
            for (int[] round : rounds(t, length)) {
                if (late(t, round) == 0) {
                    return round;
                }
            }
        }
        return new int[0];
    }

    private static int[] guild(List<Line> t) {
        List<Integer> row = new ArrayList<>();
        for (int w = 0; w < wearers(t).size(); w++) {
            row.add(w);
        }
        row.sort((a, b) -> wearers(t).get(a).number(3) - wearers(t).get(b).number(3));
        return row.stream().mapToInt(Integer::intValue).toArray();
    }

    int rounds(int town, int what) {
        List<Line> t = lines(2, town);
        if (t == null) {
            return NONE;
        }
        int n = wearers(t).size();
        if (what == 0) {
            return most(t).length;
        }
        if (what >= 10 && what < 20) {
            int[] most = most(t);
            return what - 10 < most.length ? most[what - 10] : NONE;
        }
        if (n == 0) {
            return NONE;
        }
        Count last = round -> walk(t, round)[n - 1];
        switch (what) {
            case 1: return last.of(least(rounds(t, n), last));
            case 2: return late(t, least(rounds(t, n), round -> late(t, round)));
            case 3: return late(t, guild(t));
            default: return what >= 20 && what < 20 + n ? least(rounds(t, n), last)[what - 20] : NONE;
        }
    }

    int home(int town, boolean place) {
        List<Line> t = lines(2, town);
        if (t == null || wearers(t).isEmpty()) {
            return NONE;
        }
        int[] best = {Integer.MAX_VALUE, NONE};
        List<int[]> all = rounds(t, wearers(t).size());
        for (int y = 0; y < 10; y++) {
            for (int x = 0; x < 10; x++) {
                for (int[] round : all) {
                    int soon = walk(t, x, y, round)[round.length - 1];
                    if (soon < best[0]) {
                        best = new int[] {soon, 10 * y + x};
                    }
                }
            }
        }
        return best[place ? 1 : 0];
    }

    int way(int town, int a, int b) {
        List<Line> t = lines(2, town);
        if (t == null || a < 0 || b < 0 || a >= wearers(t).size() || b >= wearers(t).size()) {
            return NONE;
        }
        Line from = wearers(t).get(a);
        Line to = wearers(t).get(b);
        return days(Math.abs(from.number(0) - to.number(0)) + Math.abs(from.number(1) - to.number(1)),
            one(t, "miles", 0, 2));
    }

    // Odds

    /** How likely it is, in parts of 10 to the power of n, that k of n months are such in which the wearer grows. */
    private static BigInteger likely(int n, int p, int k) {
        BigInteger sum = BigInteger.ZERO;
        for (int months = 0; months < 1 << n; months++) {
            if (Integer.bitCount(months) == k) {
                sum = sum.add(BigInteger.valueOf(p).pow(k).multiply(BigInteger.valueOf(10 - p).pow(n - k)));
            }
        }
        return sum;
    }

    private static long leastTerms(BigInteger up, int n, boolean under) {
        BigInteger down = BigInteger.TEN.pow(n);
        BigInteger common = up.gcd(down);
        return (under ? down : up).divide(common).longValueExact();
    }

    long cloth(int n, int p, int c, int d, int what) {
        if (n < 1 || n > 12 || p < 0 || p > 10 || c < 0 || c > 99 || d < 0 || d > 99 || what < 0 || what > 2) {
            return NONE;
        }
        BigInteger least = null;
        int best = NONE;
        for (int x = 0; x <= n; x++) {
            BigInteger mean = BigInteger.ZERO;
            for (int k = 0; k <= n; k++) {
                int cost = c * x + (k > x ? d * (k - x) : 0);
                mean = mean.add(likely(n, p, k).multiply(BigInteger.valueOf(cost)));
            }
            if (least == null || mean.compareTo(least) < 0) {
                least = mean;
                best = x;
            }
        }
        return what == 0 ? best : leastTerms(least, n, what == 2);
    }

    long enough(int n, int p, int x, boolean under) {
        if (n < 1 || n > 12 || p < 0 || p > 10 || x < 0 || x > 12) {
            return NONE;
        }
        BigInteger sum = BigInteger.ZERO;
        for (int k = 0; k <= Math.min(n, x); k++) {
            sum = sum.add(likely(n, p, k));
        }
        return leastTerms(sum, n, under);
    }
}
