import java.util.Arrays;

/** Coats, lives, towns and sights told as texts, and what follows from them. */
public final class SewnYear {
    public static final int NONE = -1;

    private static final int NOT_SUCH = -2;
    private static final int NO_STATE = -1000;

    private static final int MOST_BYTES = 600;
    private static final int MOST_TOLD = 2;
    private static final int MOST_SEAMS = 9;
    private static final int MOST_DEEDS = 40;
    private static final int MOST_WEARERS = 6;
    private static final int MOST_FACTS = 10;
    private static final int MOST_IMAGES = 3;
    private static final int MOST_TAILORS = 4;
    private static final int MOST_MONTHS = 12;
    private static final int MOST_DRAWN = 60;
    private static final int LONGEST_SPOOL = 60;
    private static final int DAYS = 100;
    private static final int COLOURS = 4;
    private static final int SETS = 1 << MOST_SEAMS;
    private static final int SIDE = 10;

    private static final int COATS = 0;
    private static final int LIVES = 1;
    private static final int TOWNS = 2;
    private static final int SIGHTS = 3;
    private static final int SORTS = 4;

    private static final int SEAM = 0;
    private static final int AFTER = 1;
    private static final int GROWS = 2;
    private static final int PACE = 3;

    private static final int SEW = 0;
    private static final int UNPICK = 1;
    private static final int TEAR = 2;
    private static final int GROW = 3;
    private static final int SHRINK = 4;
    private static final int DAY = 5;

    private static final int SPEED = 0;
    private static final int MILES = 1;
    private static final int TAILOR = 2;
    private static final int WEARER = 3;
    private static final int AWAY = 4;

    private static final int BEFORE = 0;
    private static final int AT = 1;
    private static final int NOT = 2;

    private static final int FAULT_FORM = 1;
    private static final int FAULT_NUMBER = 2;
    private static final int FAULT_MANY = 3;
    private static final int FAULT_MISSING = 4;

    // Above all sums that are asked for the least of, and far from overflow.
    private static final int FAR = 1_000_000;

    private final Told now = new Told();
    // Made when they are first asked for: most objects never have one.
    private final Told[] images = new Told[MOST_IMAGES];
    private final Reader reader = new Reader();
    private final Wear wear = new Wear();
    private final Sewing sewing = new Sewing();
    private final Walk walk = new Walk();

    public SewnYear() {
    }

    public int feed(int a, int b, int c, int d, int e) {
        if (now.length + 20 > MOST_BYTES) {
            return NONE;
        }
        now.put(a);
        now.put(b);
        now.put(c);
        now.put(d);
        now.put(e);
        return now.length;
    }

    public int end(int n) {
        if (n < 0 || n > now.length) {
            return NONE;
        }
        now.length = n;
        return n;
    }

    public int text(int sort, int at) {
        int there = count(sort);
        boolean further = at == NONE;
        boolean may = further ? there >= 0 && there < MOST_TOLD : at >= 0 && at < there;
        if (!may) {
            now.close(0, NONE);
            return NOT_SUCH;
        }
        reader.read(sort, now.tape, now.length);
        now.close(reader.fault, reader.place);
        if (reader.fault != 0) {
            return NONE;
        }
        int number = further ? there : at;
        now.keep(sort, number, reader);
        return number;
    }

    public int fault(int what) {
        switch (what) {
            case 0: return now.fault;
            case 1: return now.place;
            default: return NONE;
        }
    }

    public int coat(int coat, int what) {
        Coat c = coatAt(coat);
        return c == null ? NONE : c.tell(what);
    }

    public int deed(int life, int k, int what) {
        Life l = lifeAt(life);
        return l == null ? NOT_SUCH : l.tell(k, what);
    }

    public int stop(int coat, int life) {
        Coat c = coatAt(coat);
        Life l = lifeAt(life);
        return c == null || l == null ? NONE : wear.lead(c, l, l.deeds);
    }

    public int state(int coat, int life, int n, int what) {
        Coat c = coatAt(coat);
        Life l = lifeAt(life);
        if (c == null || l == null || n < 0 || n > l.deeds || wear.lead(c, l, n) < n) {
            return NO_STATE;
        }
        return wear.tell(what);
    }

    public long orders(int coat) {
        Coat c = coatAt(coat);
        if (c == null) {
            return NONE;
        }
        sewing.take(c);
        return sewing.ways();
    }

    public int order(int coat, int k, int what) {
        Coat c = orderedAt(coat);
        if (c == null || k < 0 || k >= c.seams) {
            return NONE;
        }
        switch (what) {
            case 0: return sewing.row[k];
            case 1: return Integer.bitCount(c.needs(k));
            case 2: return c.seams - 1 - Integer.bitCount(c.leans(k));
            case 3:
                sewing.fewestBursts();
                return sewing.row[k];
            case 4:
                sewing.fewestChanges();
                return sewing.row[k];
            default: return NONE;
        }
    }

    public int sewn(int coat, int what) {
        Coat c = orderedAt(coat);
        if (c == null) {
            return NONE;
        }
        switch (what) {
            case 0: return sewing.fewestBursts();
            case 1: return sewing.fewestChanges();
            case 2: return sewing.longest(1);
            case 3: return sewing.longest(c.pace);
            default: return NONE;
        }
    }

    public int parted(int coat, int a, int b, boolean side) {
        Coat c = coatAt(coat);
        if (c == null || a == b || !c.hasSeam(a) || !c.hasSeam(b)) {
            return NONE;
        }
        int least = FAR;
        int first = 0;
        for (int set = 0; set < 1 << c.seams; set++) {
            if ((set >> a & 1) == 1 && (set >> b & 1) == 0) {
                int cut = c.cut(set);
                if (cut < least) {
                    least = cut;
                    first = set;
                }
            }
        }
        return side ? first : least;
    }

    public int town(int town, int what) {
        Town t = townAt(town);
        return t == null ? NOT_SUCH : t.tell(what);
    }

    public int done(int town, int round, int n, int k) {
        Town t = townAt(town);
        if (t == null || n < 1 || n > MOST_WEARERS || k < 0 || k >= n || round < 0) {
            return NONE;
        }
        int unit = 1;
        for (int i = 1; i < n; i++) {
            unit *= MOST_WEARERS;
        }
        if (round / unit >= MOST_WEARERS) {
            return NONE;
        }
        walk.begin(t, t.x, t.y);
        for (int i = 0; i < n && unit > 0; i++) {
            if (!walk.go(round / unit % MOST_WEARERS)) {
                return NONE;
            }
            unit /= MOST_WEARERS;
        }
        return walk.days[k];
    }

    public int rounds(int town, int what) {
        Town t = townAt(town);
        if (t == null) {
            return NONE;
        }
        walk.begin(t, t.x, t.y);
        if (what == 0) {
            return walk.most();
        }
        int k = what % 10;
        if (what >= 10 && what < 20) {
            return k < walk.most() && k < MOST_WEARERS ? walk.best[k] : NONE;
        }
        if (t.wearers == 0) {
            return NONE;
        }
        switch (what) {
            case 1: return walk.soonest(FAR);
            case 2: return walk.leastLate();
            case 3: return walk.lateByDue();
            default: break;
        }
        if (what < 20 || what >= 30 || k >= t.wearers) {
            return NONE;
        }
        walk.soonest(FAR);
        return walk.best[k];
    }

    public long cloth(int n, int p, int c, int d, int what) {
        if (!areMonths(n, p) || !isCost(c) || !isCost(d) || what < 0 || what > 2) {
            return NONE;
        }
        long least = FAR * power(10, n);
        int best = 0;
        for (int x = 0; x <= n; x++) {
            long cost = c * x * power(10, n);
            for (int k = x + 1; k <= n; k++) {
                cost += d * (k - x) * weight(n, p, k);
            }
            if (cost < least) {
                least = cost;
                best = x;
            }
        }
        return what == 0 ? best : inLeastTerms(least, power(10, n), what == 2);
    }

    public int fact(int sight, int k, int what) {
        Sight s = sightAt(sight);
        return s == null ? NOT_SUCH : s.tell(k, what);
    }

    public long fits(int coat, int sight, int seam, int place) {
        Coat c = seenAt(coat, sight);
        if (c == null) {
            return NONE;
        }
        if (seam == NONE) {
            return sewing.ways();
        }
        // A place is one of an ORDER of this COAT, so it has as many as SEAMS.
        return c.hasSeam(seam) && c.hasSeam(place) ? sewing.holds(seam, place) : NONE;
    }

    public int sure(int coat, int sight, int place) {
        Coat c = seenAt(coat, sight);
        if (c == null) {
            return NONE;
        }
        int all = sewing.ways();
        if (all == 0) {
            return NONE;
        }
        if (place == NONE) {
            return sewing.bestAsked(all);
        }
        return c.hasSeam(place) ? sewing.surelyAt(place, all) : NONE;
    }

    public int drawn(int coat, int seed, int n, int what) {
        Coat c = coatAt(coat);
        if (c == null || n < 0 || n > MOST_DRAWN) {
            return NO_STATE;
        }
        wear.draw(c, seed, n);
        return wear.tell(what);
    }

    public int under(int coat, int seam, int what) {
        Coat c = orderedAt(coat);
        if (c == null || !c.hasSeam(seam)) {
            return NONE;
        }
        switch (what) {
            case 0: return c.leans(seam);
            case 1: return begun(c.stitchesOf(c.needs(seam) | 1 << seam), c.pace) - 1;
            default: return NONE;
        }
    }

    public int hands(int coat, int k) {
        Coat c = orderedAt(coat);
        return c == null || k < 1 || k > MOST_TAILORS ? NONE : sewing.daysOfTailors(k);
    }

    public int spools(int coat, int length) {
        Coat c = coatAt(coat);
        if (c == null || length < 1 || length > LONGEST_SPOOL || c.longestSeam() > length) {
            return NONE;
        }
        sewing.take(c);
        int sum = 0;
        for (int colour = 0; colour < COLOURS; colour++) {
            sum += sewing.fewestSpools(c.seamsOf(colour), length);
        }
        return sum;
    }

    public int grown(int coat, int n) {
        Coat c = coatAt(coat);
        if (c == null) {
            return NONE;
        }
        int sum = 0;
        for (int day = 0; day < DAYS; day++) {
            sum += c.growths[day];
            if (sum >= n) {
                return day;
            }
        }
        return NONE;
    }

    public int home(int town, boolean place) {
        Town t = townAt(town);
        if (t == null || t.wearers == 0) {
            return NONE;
        }
        int least = FAR;
        int first = NONE;
        for (int at = 0; at < SIDE * SIDE; at++) {
            walk.begin(t, at % SIDE, at / SIDE);
            int soon = walk.soonest(least);
            if (soon < least) {
                least = soon;
                first = at;
            }
        }
        return place ? first : least;
    }

    public int way(int town, int a, int b) {
        Town t = townAt(town);
        return t == null || !t.hasWearer(a) || !t.hasWearer(b) ? NONE : t.daysTo(t.xs[a], t.ys[a], b);
    }

    public long enough(int n, int p, int x, boolean under) {
        if (!areMonths(n, p) || x < 0 || x > MOST_MONTHS) {
            return NONE;
        }
        long sum = 0;
        for (int k = 0; k <= x && k <= n; k++) {
            sum += weight(n, p, k);
        }
        return inLeastTerms(sum, power(10, n), under);
    }

    public int count(int sort) {
        return sort < 0 || sort >= SORTS ? NOT_SUCH : now.counts[sort];
    }

    public boolean image(int k) {
        if (k < 0 || k >= MOST_IMAGES) {
            return false;
        }
        if (images[k] == null) {
            images[k] = new Told();
        }
        images[k].take(now);
        return true;
    }

    public boolean again(int k) {
        if (k < 0 || k >= MOST_IMAGES || images[k] == null) {
            return false;
        }
        now.take(images[k]);
        return true;
    }

    private Coat coatAt(int k) {
        return now.has(COATS, k) ? now.coats[k] : null;
    }

    private Life lifeAt(int k) {
        return now.has(LIVES, k) ? now.lives[k] : null;
    }

    private Town townAt(int k) {
        return now.has(TOWNS, k) ? now.towns[k] : null;
    }

    private Sight sightAt(int k) {
        return now.has(SIGHTS, k) ? now.sights[k] : null;
    }

    /** A COAT that has an ORDER, the first of which is laid out then; else null. */
    private Coat orderedAt(int k) {
        Coat c = coatAt(k);
        if (c == null) {
            return null;
        }
        sewing.take(c);
        return sewing.layFirst() ? c : null;
    }

    /** A COAT, taken with what a SIGHT tells of its ORDERS; null if that tells of a SEAM that is not there. */
    private Coat seenAt(int coat, int sight) {
        Coat c = coatAt(coat);
        Sight s = sightAt(sight);
        if (c == null || s == null || s.highestSeam() >= c.seams) {
            return null;
        }
        sewing.take(c);
        sewing.see(s);
        return c;
    }

    private static boolean areMonths(int n, int p) {
        return n >= 1 && n <= MOST_MONTHS && p >= 0 && p <= 10;
    }

    private static boolean isCost(int c) {
        return c >= 0 && c <= 99;
    }

    /** How many days (or spans of any width) are begun by so many of which each holds some. */
    private static int begun(int all, int each) {
        return each < 1 ? 0 : (all + each - 1) / each;
    }

    private static long power(int base, int n) {
        long product = 1;
        for (int i = 0; i < n; i++) {
            product *= base;
        }
        return product;
    }

    /** How likely it is to grow k in n months, in parts of 10 to the power of n. */
    private static long weight(int n, int p, int k) {
        long ways = 1;
        for (int i = 1; i <= k; i++) {
            ways = ways * (n - k + i) / i;
        }
        return ways * power(p, k) * power(10 - p, n - k);
    }

    private static long inLeastTerms(long up, long down, boolean under) {
        long a = down;
        long b = up;
        for (int i = 0; i < 1000 && b != 0; i++) {
            long rest = a % b;
            a = b;
            b = rest;
        }
        if (a < 1) {
            return NONE;
        }
        return under ? down / a : up / a;
    }

    /** A COAT as told. */
    private static final class Coat {
        int seams;
        int pace = 1;
        final int[] stitches = new int[MOST_SEAMS];
        final int[] colours = new int[MOST_SEAMS];
        final int[] eases = new int[MOST_SEAMS];
        final int[] afters = new int[MOST_SEAMS];
        final int[] growths = new int[DAYS];

        void clear() {
            seams = 0;
            pace = 1;
            Arrays.fill(afters, 0);
            Arrays.fill(growths, 0);
        }

        void take(Coat other) {
            seams = other.seams;
            pace = other.pace;
            System.arraycopy(other.stitches, 0, stitches, 0, MOST_SEAMS);
            System.arraycopy(other.colours, 0, colours, 0, MOST_SEAMS);
            System.arraycopy(other.eases, 0, eases, 0, MOST_SEAMS);
            System.arraycopy(other.afters, 0, afters, 0, MOST_SEAMS);
            System.arraycopy(other.growths, 0, growths, 0, DAYS);
        }

        void addSeam(int stitchesOfIt, int colour, int ease) {
            if (seams < MOST_SEAMS) {
                stitches[seams] = stitchesOfIt;
                colours[seams] = colour;
                eases[seams] = ease;
                seams++;
            }
        }

        boolean hasSeam(int s) {
            return s >= 0 && s < seams;
        }

        int tell(int what) {
            if (what == 0) {
                return seams;
            }
            if (what == 1) {
                return pace;
            }
            if (what >= 100 && what < 100 + DAYS) {
                return growths[what - 100];
            }
            int s = what % 10;
            if (what < 10 || !hasSeam(s)) {
                return NONE;
            }
            switch (what / 10) {
                case 1: return stitches[s];
                case 2: return colours[s];
                case 3: return eases[s];
                case 4: return afters[s];
                default: return NONE;
            }
        }

        int stitchesOf(int set) {
            int sum = 0;
            for (int s = 0; s < seams; s++) {
                if ((set >> s & 1) == 1) {
                    sum += stitches[s];
                }
            }
            return sum;
        }

        int seamsOf(int colour) {
            int set = 0;
            for (int s = 0; s < seams; s++) {
                if (colours[s] == colour) {
                    set |= 1 << s;
                }
            }
            return set;
        }

        int longestSeam() {
            int most = 0;
            for (int s = 0; s < seams; s++) {
                most = Math.max(most, stitches[s]);
            }
            return most;
        }

        /** All SEAMS that must be WHOLE ahead of one, by those it comes AFTER and so on. */
        int needs(int seam) {
            int set = hasSeam(seam) ? afters[seam] : 0;
            // A row of such SEAMS has at most as many steps as there are SEAMS.
            for (int step = 0; step < seams; step++) {
                for (int s = 0; s < seams; s++) {
                    if ((set >> s & 1) == 1) {
                        set |= afters[s];
                    }
                }
            }
            return set;
        }

        /** All SEAMS that come AFTER one, or AFTER one of these, and so on. */
        int leans(int seam) {
            int set = 0;
            for (int s = 0; s < seams; s++) {
                if (hasSeam(seam) && (needs(s) >> seam & 1) == 1) {
                    set |= 1 << s;
                }
            }
            return set;
        }

        /** How many couples, one of which comes AFTER the other one, a side parts. */
        int cut(int side) {
            int couples = 0;
            for (int a = 0; a < seams; a++) {
                for (int b = a + 1; b < seams; b++) {
                    boolean tied = (afters[a] >> b & 1) == 1 || (afters[b] >> a & 1) == 1;
                    if (tied && (side >> a & 1) != (side >> b & 1)) {
                        couples++;
                    }
                }
            }
            return couples;
        }
    }

    /** A LIFE as told. */
    private static final class Life {
        int deeds;
        final int[] kinds = new int[MOST_DEEDS];
        final int[] numbers = new int[MOST_DEEDS];

        void take(Life other) {
            deeds = other.deeds;
            System.arraycopy(other.kinds, 0, kinds, 0, MOST_DEEDS);
            System.arraycopy(other.numbers, 0, numbers, 0, MOST_DEEDS);
        }

        void addDeed(int kind, int number) {
            if (deeds < MOST_DEEDS) {
                kinds[deeds] = kind;
                numbers[deeds] = number;
                deeds++;
            }
        }

        int tell(int k, int what) {
            if (k == NONE && what == 0) {
                return deeds;
            }
            if (k < 0 || k >= deeds) {
                return NOT_SUCH;
            }
            switch (what) {
                case 0: return kinds[k];
                case 1: return numbers[k];
                default: return NOT_SUCH;
            }
        }
    }

    /** A TOWN as told. */
    private static final class Town {
        int x;
        int y;
        int speed = 3;
        int miles = 2;
        int wearers;
        final int[] xs = new int[MOST_WEARERS];
        final int[] ys = new int[MOST_WEARERS];
        final int[] stitches = new int[MOST_WEARERS];
        final int[] dues = new int[MOST_WEARERS];
        final int[] froms = new int[MOST_WEARERS];
        final int[] upTos = new int[MOST_WEARERS];

        void clear() {
            x = 0;
            y = 0;
            speed = 3;
            miles = 2;
            wearers = 0;
            Arrays.fill(froms, NONE);
            Arrays.fill(upTos, NONE);
        }

        void take(Town other) {
            x = other.x;
            y = other.y;
            speed = other.speed;
            miles = other.miles;
            wearers = other.wearers;
            System.arraycopy(other.xs, 0, xs, 0, MOST_WEARERS);
            System.arraycopy(other.ys, 0, ys, 0, MOST_WEARERS);
            System.arraycopy(other.stitches, 0, stitches, 0, MOST_WEARERS);
            System.arraycopy(other.dues, 0, dues, 0, MOST_WEARERS);
            System.arraycopy(other.froms, 0, froms, 0, MOST_WEARERS);
            System.arraycopy(other.upTos, 0, upTos, 0, MOST_WEARERS);
        }

        void addWearer(int atX, int atY, int stitchesOfIt, int due) {
            if (wearers < MOST_WEARERS) {
                xs[wearers] = atX;
                ys[wearers] = atY;
                stitches[wearers] = stitchesOfIt;
                dues[wearers] = due;
                wearers++;
            }
        }

        boolean hasWearer(int w) {
            return w >= 0 && w < wearers;
        }

        int tell(int what) {
            switch (what) {
                case 0: return wearers;
                case 1: return speed;
                case 2: return miles;
                case 3: return x;
                case 4: return y;
                default: break;
            }
            int w = what % 10;
            if (what < 10 || !hasWearer(w)) {
                return NOT_SUCH;
            }
            switch (what / 10) {
                case 1: return xs[w];
                case 2: return ys[w];
                case 3: return stitches[w];
                case 4: return dues[w];
                case 5: return froms[w];
                case 6: return upTos[w];
                default: return NOT_SUCH;
            }
        }

        int daysTo(int fromX, int fromY, int w) {
            return hasWearer(w) ? begun(Math.abs(xs[w] - fromX) + Math.abs(ys[w] - fromY), miles) : 0;
        }

        int daysOfSewing(int w) {
            return hasWearer(w) ? begun(stitches[w], speed) : 0;
        }

        /** The last day of sewing at a WEARER to whom the TAILOR comes on a day. */
        int lastDay(int w, int comes) {
            int last = comes + daysOfSewing(w) - 1;
            if (!hasWearer(w) || froms[w] == NONE || last < froms[w] || comes > upTos[w]) {
                return last;
            }
            return upTos[w] + daysOfSewing(w);
        }
    }

    /** A SIGHT as told. */
    private static final class Sight {
        int facts;
        final int[] kinds = new int[MOST_FACTS];
        final int[] firsts = new int[MOST_FACTS];
        final int[] seconds = new int[MOST_FACTS];

        void take(Sight other) {
            facts = other.facts;
            System.arraycopy(other.kinds, 0, kinds, 0, MOST_FACTS);
            System.arraycopy(other.firsts, 0, firsts, 0, MOST_FACTS);
            System.arraycopy(other.seconds, 0, seconds, 0, MOST_FACTS);
        }

        void addFact(int kind, int first, int second) {
            if (facts < MOST_FACTS) {
                kinds[facts] = kind;
                firsts[facts] = first;
                seconds[facts] = second;
                facts++;
            }
        }

        int tell(int k, int what) {
            if (k == NONE && what == 0) {
                return facts;
            }
            if (k < 0 || k >= facts) {
                return NOT_SUCH;
            }
            switch (what) {
                case 0: return kinds[k];
                case 1: return firsts[k];
                case 2: return seconds[k];
                default: return NOT_SUCH;
            }
        }

        int highestSeam() {
            int highest = NONE;
            for (int k = 0; k < facts; k++) {
                highest = Math.max(highest, firsts[k]);
                if (kinds[k] == BEFORE) {
                    highest = Math.max(highest, seconds[k]);
                }
            }
            return highest;
        }
    }

    /** All that is told: what an image keeps. */
    private static final class Told {
        final byte[] tape = new byte[MOST_BYTES];
        int length;
        int fault;
        int place = NONE;
        final int[] counts = new int[SORTS];
        final Coat[] coats = {new Coat(), new Coat()};
        final Life[] lives = {new Life(), new Life()};
        final Town[] towns = {new Town(), new Town()};
        final Sight[] sights = {new Sight(), new Sight()};

        void put(int number) {
            for (int shift = 24; shift >= 0 && length < MOST_BYTES; shift -= 8) {
                tape[length] = (byte) (number >> shift);
                length++;
            }
        }

        void close(int faultOfIt, int placeOfIt) {
            length = 0;
            fault = faultOfIt;
            place = placeOfIt;
        }

        boolean has(int sort, int k) {
            return sort >= 0 && sort < SORTS && k >= 0 && k < counts[sort] && k < MOST_TOLD;
        }

        void keep(int sort, int k, Reader read) {
            if (sort < 0 || sort >= SORTS || k < 0 || k >= MOST_TOLD) {
                return;
            }
            switch (sort) {
                case COATS: coats[k].take(read.coat); break;
                case LIVES: lives[k].take(read.life); break;
                case TOWNS: towns[k].take(read.town); break;
                default: sights[k].take(read.sight); break;
            }
            counts[sort] = Math.max(counts[sort], k + 1);
        }

        void take(Told other) {
            System.arraycopy(other.tape, 0, tape, 0, MOST_BYTES);
            length = other.length;
            fault = other.fault;
            place = other.place;
            System.arraycopy(other.counts, 0, counts, 0, SORTS);
            for (int k = 0; k < MOST_TOLD; k++) {
                coats[k].take(other.coats[k]);
                lives[k].take(other.lives[k]);
                towns[k].take(other.towns[k]);
                sights[k].take(other.sights[k]);
            }
        }
    }

    /** Reads a text, line by line, into the spare COAT, LIFE, TOWN or SIGHT; finds its FAULT. */
    private static final class Reader {
        static final int END = 0;
        static final int WORD = 1;
        static final int NUMBER = 2;
        static final int SEMICOLON = 3;
        static final int NO_TOKEN = 4;
        static final int MOST_NUMBERS = 4;

        final Coat coat = new Coat();
        final Life life = new Life();
        final Town town = new Town();
        final Sight sight = new Sight();
        final int[] numbers = new int[MOST_NUMBERS];
        final int[] places = new int[MOST_NUMBERS];
        byte[] bytes = new byte[0];
        int length;
        int token;
        int from;
        int to;
        int toldOf;
        int fault;
        int place;

        void read(int sort, byte[] tape, int lengthOfIt) {
            bytes = tape;
            length = Math.min(lengthOfIt, tape.length);
            to = 0;
            toldOf = 0;
            fault = 0;
            place = NONE;
            coat.clear();
            life.deeds = 0;
            town.clear();
            sight.facts = 0;
            step();
            for (int lines = 0; lines < MOST_BYTES && token != END && fault != FAULT_FORM; lines++) {
                line(sort);
            }
            boolean missing = sort == COATS && toldOf >> coat.seams != 0
                || sort == TOWNS && toldOf >> town.wearers != 0;
            if (missing) {
                note(FAULT_MISSING, length);
            }
        }

        void line(int sort) {
            int first = from;
            int word = token == WORD ? wordOf(sort) : NONE;
            if (word == NONE) {
                breakOff();
                return;
            }
            step();
            int n = numbersOf(sort, word);
            for (int i = 0; i < n && i < MOST_NUMBERS; i++) {
                if (token != NUMBER) {
                    breakOff();
                    return;
                }
                numbers[i] = numberOfToken();
                places[i] = from;
                step();
            }
            if (token != SEMICOLON) {
                breakOff();
                return;
            }
            step();
            switch (sort) {
                case COATS: lineOfCoat(word, first); break;
                case LIVES: lineOfLife(word, first); break;
                case TOWNS: lineOfTown(word, first); break;
                default: lineOfSight(word, first); break;
            }
        }

        int wordOf(int sort) {
            switch (sort) {
                case COATS: return is("seam") ? SEAM : is("after") ? AFTER : is("grows") ? GROWS
                    : is("pace") ? PACE : NONE;
                case LIVES: return is("sew") ? SEW : is("unpick") ? UNPICK : is("tear") ? TEAR
                    : is("grow") ? GROW : is("shrink") ? SHRINK : is("day") ? DAY : NONE;
                case TOWNS: return is("speed") ? SPEED : is("miles") ? MILES : is("tailor") ? TAILOR
                    : is("wearer") ? WEARER : is("away") ? AWAY : NONE;
                case SIGHTS: return is("before") ? BEFORE : is("at") ? AT : is("not") ? NOT : NONE;
                default: return NONE;
            }
        }

        static int numbersOf(int sort, int word) {
            switch (sort) {
                case COATS: return word == SEAM ? 3 : word == PACE ? 1 : 2;
                case LIVES: return word == DAY ? 0 : 1;
                case TOWNS: return word == WEARER ? 4 : word == AWAY ? 3 : word == TAILOR ? 2 : 1;
                default: return 2;
            }
        }

        void lineOfCoat(int word, int first) {
            switch (word) {
                case SEAM:
                    leaveRoom(coat.seams, MOST_SEAMS, first);
                    bound(0, 1, 9);
                    bound(1, 0, COLOURS - 1);
                    bound(2, 0, 9);
                    coat.addSeam(numbers[0], numbers[1], numbers[2]);
                    break;
                case AFTER:
                    boundCouple();
                    if (fault == 0 && isSeam(numbers[0]) && isSeam(numbers[1])) {
                        coat.afters[numbers[0]] |= 1 << numbers[1];
                        toldOf |= 1 << numbers[0] | 1 << numbers[1];
                    }
                    break;
                case GROWS:
                    bound(0, 0, DAYS - 1);
                    bound(1, 0, 9);
                    if (numbers[0] >= 0 && numbers[0] < DAYS) {
                        coat.growths[numbers[0]] = numbers[1];
                    }
                    break;
                default:
                    bound(0, 1, 9);
                    coat.pace = numbers[0];
                    break;
            }
        }

        void lineOfLife(int word, int first) {
            leaveRoom(life.deeds, MOST_DEEDS, first);
            if (word == DAY) {
                life.addDeed(word, NONE);
                return;
            }
            if (word == GROW || word == SHRINK) {
                bound(0, 1, 9);
            } else {
                bound(0, 0, MOST_SEAMS - 1);
            }
            life.addDeed(word, numbers[0]);
        }

        void lineOfTown(int word, int first) {
            switch (word) {
                case SPEED:
                    bound(0, 1, 9);
                    town.speed = numbers[0];
                    break;
                case MILES:
                    bound(0, 1, 9);
                    town.miles = numbers[0];
                    break;
                case TAILOR:
                    bound(0, 0, SIDE - 1);
                    bound(1, 0, SIDE - 1);
                    town.x = numbers[0];
                    town.y = numbers[1];
                    break;
                case WEARER:
                    leaveRoom(town.wearers, MOST_WEARERS, first);
                    bound(0, 0, SIDE - 1);
                    bound(1, 0, SIDE - 1);
                    bound(2, 1, 30);
                    bound(3, 0, DAYS - 1);
                    town.addWearer(numbers[0], numbers[1], numbers[2], numbers[3]);
                    break;
                default:
                    bound(0, 0, MOST_WEARERS - 1);
                    bound(1, 0, DAYS - 1);
                    bound(2, numbers[1], DAYS - 1);
                    if (numbers[0] >= 0 && numbers[0] < MOST_WEARERS) {
                        town.froms[numbers[0]] = numbers[1];
                        town.upTos[numbers[0]] = numbers[2];
                        toldOf |= 1 << numbers[0];
                    }
                    break;
            }
        }

        void lineOfSight(int word, int first) {
            leaveRoom(sight.facts, MOST_FACTS, first);
            if (word == BEFORE) {
                boundCouple();
            } else {
                bound(0, 0, MOST_SEAMS - 1);
                bound(1, 0, MOST_SEAMS - 1);
            }
            sight.addFact(word, numbers[0], numbers[1]);
        }

        static boolean isSeam(int number) {
            return number >= 0 && number < MOST_SEAMS;
        }

        void boundCouple() {
            bound(0, 0, MOST_SEAMS - 1);
            bound(1, 0, MOST_SEAMS - 1);
            if (numbers[0] == numbers[1]) {
                note(FAULT_NUMBER, places[1]);
            }
        }

        void bound(int i, int least, int most) {
            if (i >= 0 && i < MOST_NUMBERS && (numbers[i] < least || numbers[i] > most)) {
                note(FAULT_NUMBER, places[i]);
            }
        }

        void leaveRoom(int there, int most, int first) {
            if (there >= most) {
                note(FAULT_MANY, first);
            }
        }

        /** Lines are read by place, so the first FAULT that is noted stays. */
        void note(int faultOfIt, int placeOfIt) {
            if (fault == 0) {
                fault = faultOfIt;
                place = placeOfIt;
            }
        }

        /** A FAULT of form is told ahead of all others. */
        void breakOff() {
            fault = FAULT_FORM;
            place = from;
        }

        void step() {
            int at = to;
            while (at < length && isBlank(bytes[at])) {
                at++;
            }
            from = at;
            to = at;
            if (at >= length) {
                token = END;
            } else if (isLetter(bytes[at])) {
                while (to < length && isLetter(bytes[to])) {
                    to++;
                }
                token = WORD;
            } else if (isDigit(bytes[at])) {
                while (to < length && isDigit(bytes[to])) {
                    to++;
                }
                token = to - from <= 2 ? NUMBER : NO_TOKEN;
            } else {
                token = bytes[at] == ';' ? SEMICOLON : NO_TOKEN;
                to++;
            }
        }

        int numberOfToken() {
            int number = 0;
            for (int at = from; at < to && at < length; at++) {
                number = number * 10 + bytes[at] - '0';
            }
            return number;
        }

        boolean is(String word) {
            if (to - from != word.length() || to > length) {
                return false;
            }
            for (int i = 0; i < word.length(); i++) {
                if (bytes[from + i] != word.charAt(i)) {
                    return false;
                }
            }
            return true;
        }

        static boolean isBlank(int b) {
            return b == 10 || b == 32;
        }

        static boolean isLetter(int b) {
            return b >= 'a' && b <= 'z';
        }

        static boolean isDigit(int b) {
            return b >= '0' && b <= '9';
        }
    }

    /** A COAT as it is sewn and worn, day by day. */
    private static final class Wear {
        Coat coat = new Coat();
        int day;
        int girth;
        int sewnToday;
        int bursts;
        int waste;
        int seed;
        final int[] has = new int[MOST_SEAMS];
        final int[] fitted = new int[MOST_SEAMS];

        void begin(Coat c) {
            coat = c;
            day = 0;
            girth = c.growths[0];
            sewnToday = 0;
            bursts = 0;
            waste = 0;
            Arrays.fill(has, 0);
            Arrays.fill(fitted, 0);
        }

        /** Does the first n DEEDS, or those ahead of the first that can't be: how many. */
        int lead(Coat c, Life life, int n) {
            begin(c);
            for (int k = 0; k < n && k < life.deeds; k++) {
                if (!act(life.kinds[k], life.numbers[k])) {
                    return k;
                }
            }
            return Math.min(n, life.deeds);
        }

        void draw(Coat c, int from, int n) {
            begin(c);
            seed = from;
            for (int i = 0; i < n; i++) {
                int drawn = next(10);
                if (drawn <= 6) {
                    if (c.seams > 0) {
                        act(drawn == 6 ? UNPICK : SEW, next(c.seams));
                    }
                } else if (drawn == 7) {
                    act(GROW, 1 + next(3));
                } else {
                    act(DAY, NONE);
                }
            }
        }

        int next(int below) {
            seed = seed * 1103515245 + 12345;
            return below < 1 ? 0 : (seed >>> 16) % below;
        }

        /** Does a DEED, if it can be; else nothing is changed. */
        boolean act(int kind, int number) {
            switch (kind) {
                case SEW: return stitch(number);
                case UNPICK: return unpick(number);
                case TEAR: return tear(number);
                case GROW: return widen(number);
                case SHRINK: return widen(-number);
                case DAY: return sleep();
                default: return false;
            }
        }

        boolean stitch(int s) {
            if (!coat.hasSeam(s) || isWhole(s) || sewnToday >= coat.pace) {
                return false;
            }
            if ((coat.afters[s] & ~wholeOnes()) != 0) {
                return false;
            }
            has[s]++;
            sewnToday++;
            if (isWhole(s)) {
                fitted[s] = girth;
            }
            return true;
        }

        boolean unpick(int s) {
            if (!coat.hasSeam(s) || has[s] == 0) {
                return false;
            }
            for (int other = 0; other < coat.seams; other++) {
                if ((coat.afters[other] >> s & 1) == 1 && has[other] > 0) {
                    return false;
                }
            }
            lose(s, Math.min(2, has[s]));
            return true;
        }

        boolean tear(int s) {
            if (!coat.hasSeam(s) || has[s] == 0) {
                return false;
            }
            lose(s, has[s]);
            return true;
        }

        boolean sleep() {
            if (day + 1 >= DAYS) {
                return false;
            }
            day++;
            sewnToday = 0;
            return widen(coat.growths[day]);
        }

        boolean widen(int more) {
            girth += more;
            for (int s = 0; s < coat.seams; s++) {
                if (isWhole(s) && girth - fitted[s] > coat.eases[s]) {
                    lose(s, has[s]);
                    bursts++;
                }
            }
            return true;
        }

        void lose(int s, int stitches) {
            if (coat.hasSeam(s)) {
                has[s] -= stitches;
                waste += stitches;
            }
        }

        boolean isWhole(int s) {
            return coat.hasSeam(s) && has[s] == coat.stitches[s];
        }

        int wholeOnes() {
            int set = 0;
            for (int s = 0; s < coat.seams; s++) {
                if (isWhole(s)) {
                    set |= 1 << s;
                }
            }
            return set;
        }

        int tell(int what) {
            switch (what) {
                case 0: return day;
                case 1: return girth;
                case 2: return sewnToday;
                case 3: return bursts;
                case 4: return waste;
                case 5: return wholeOnes();
                default: break;
            }
            int s = what % 10;
            if (what >= 10 && what < 20 && coat.hasSeam(s)) {
                return has[s];
            }
            return what >= 20 && what < 30 && isWhole(s) ? fitted[s] : NO_STATE;
        }
    }

    /** The ORDERS of a COAT, by sets (bits) of the SEAMS sewn so far. */
    private static final class Sewing {
        Coat coat = new Coat();
        int seams;
        final int[] before = new int[MOST_SEAMS];
        final int[] places = new int[MOST_SEAMS];
        final int[] row = new int[MOST_SEAMS];
        final int[] ends = new int[MOST_SEAMS];
        final int[] free = new int[MOST_TAILORS];
        final int[] behind = new int[DAYS];
        final int[] table = new int[SETS];
        final int[] changes = new int[SETS * COLOURS];

        void take(Coat c) {
            coat = c;
            seams = c.seams;
            System.arraycopy(c.afters, 0, before, 0, MOST_SEAMS);
            Arrays.fill(places, SETS - 1);
        }

        void see(Sight sight) {
            for (int k = 0; k < sight.facts; k++) {
                int a = sight.firsts[k];
                int b = sight.seconds[k];
                if (a < 0 || a >= MOST_SEAMS || b < 0 || b >= MOST_SEAMS) {
                    continue;
                }
                switch (sight.kinds[k]) {
                    case BEFORE: before[b] |= 1 << a; break;
                    case AT: places[a] &= 1 << b; break;
                    default: places[a] &= ~(1 << b); break;
                }
            }
        }

        boolean mayCome(int s, int set) {
            return (set >> s & 1) == 0 && (before[s] & ~set) == 0
                && (places[s] >> Integer.bitCount(set) & 1) == 1;
        }

        /** How many ORDERS there are that keep to what is taken and seen. */
        int ways() {
            int all = (1 << seams) - 1;
            Arrays.fill(table, 0);
            table[0] = 1;
            for (int set = 0; set < all; set++) {
                if (table[set] == 0) {
                    continue;
                }
                for (int s = 0; s < seams; s++) {
                    if (mayCome(s, set)) {
                        table[set | 1 << s] += table[set];
                    }
                }
            }
            return table[all];
        }

        int holds(int seam, int place) {
            if (!coat.hasSeam(seam) || !coat.hasSeam(place)) {
                return 0;
            }
            int kept = places[seam];
            places[seam] = kept & 1 << place;
            int count = ways();
            places[seam] = kept;
            return count;
        }

        int surelyAt(int place, int all) {
            for (int s = 0; s < seams; s++) {
                if (holds(s, place) == all) {
                    return s;
                }
            }
            return NONE;
        }

        int bestAsked(int all) {
            int least = FAR;
            int first = NONE;
            for (int a = 0; a < seams; a++) {
                for (int b = a + 1; b < seams; b++) {
                    int kept = before[b];
                    before[b] = kept | 1 << a;
                    int ahead = ways();
                    before[b] = kept;
                    int more = Math.max(ahead, all - ahead);
                    if (more < least) {
                        least = more;
                        first = 9 * a + b;
                    }
                }
            }
            return first;
        }

        /** Lays out the first ORDER by numbers; false if there is none. */
        boolean layFirst() {
            int set = 0;
            for (int place = 0; place < seams; place++) {
                int s = 0;
                while (s < seams && !mayCome(s, set)) {
                    s++;
                }
                if (s == seams) {
                    return false;
                }
                row[place] = s;
                set |= 1 << s;
            }
            return true;
        }

        /** Lays out the first ORDER by LEAST: that number. */
        int fewestBursts() {
            sumGrowthBehind();
            int all = (1 << seams) - 1;
            for (int set = all; set >= 0; set--) {
                int least = set == all ? 0 : FAR;
                for (int s = 0; s < seams; s++) {
                    if (mayCome(s, set)) {
                        least = Math.min(least, burstsFrom(s, set));
                    }
                }
                table[set] = least;
            }
            int set = 0;
            for (int place = 0; place < seams; place++) {
                for (int s = 0; s < seams; s++) {
                    if (mayCome(s, set) && burstsFrom(s, set) == table[set]) {
                        row[place] = s;
                        set |= 1 << s;
                        break;
                    }
                }
            }
            return table[0];
        }

        void sumGrowthBehind() {
            int sum = 0;
            for (int day = DAYS - 1; day >= 0; day--) {
                behind[day] = sum;
                sum += coat.growths[day];
            }
        }

        /** The fewest SEAMS behind a set that would BURST, if one is sewn next. */
        int burstsFrom(int s, int set) {
            int then = set | 1 << s;
            int day = begun(coat.stitchesOf(then), coat.pace) - 1;
            boolean holdsOut = day < 0 || day >= DAYS || behind[day] <= coat.eases[s];
            return table[then] + (holdsOut ? 0 : 1);
        }

        /** Lays out THREADED: the number of its changes. */
        int fewestChanges() {
            int all = (1 << seams) - 1;
            for (int set = all; set > 0; set--) {
                for (int last = 0; last < COLOURS; last++) {
                    int least = set == all ? 0 : FAR;
                    for (int s = 0; s < seams; s++) {
                        if (mayCome(s, set)) {
                            least = Math.min(least, changesFrom(s, set, last));
                        }
                    }
                    changes[set * COLOURS + last] = least;
                }
            }
            int fewest = seams == 0 ? 0 : FAR;
            for (int s = 0; s < seams; s++) {
                if (mayCome(s, 0)) {
                    fewest = Math.min(fewest, changesFrom(s, 0, NONE));
                }
            }
            layThreaded(fewest);
            return fewest;
        }

        void layThreaded(int fewest) {
            int set = 0;
            int last = NONE;
            int left = fewest;
            for (int place = 0; place < seams; place++) {
                for (int s = 0; s < seams; s++) {
                    if (mayCome(s, set) && changesFrom(s, set, last) == left) {
                        row[place] = s;
                        set |= 1 << s;
                        last = coat.colours[s];
                        left = changes[set * COLOURS + last];
                        break;
                    }
                }
            }
        }

        /** The fewest changes behind a set whose last colour is told (NONE: nothing is sewn), if one is sewn next. */
        int changesFrom(int s, int set, int last) {
            int colour = coat.colours[s];
            int change = last == NONE || last == colour ? 0 : 1;
            return change + changes[(set | 1 << s) * COLOURS + colour];
        }

        /** The longest row of SEAMS, each AFTER the one ahead, by spans of so many stitches; needs the first ORDER. */
        int longest(int each) {
            int most = 0;
            for (int place = 0; place < seams; place++) {
                int s = row[place];
                int from = 0;
                for (int other = 0; other < seams; other++) {
                    if ((before[s] >> other & 1) == 1) {
                        from = Math.max(from, ends[other]);
                    }
                }
                ends[s] = from + begun(coat.stitches[s], each);
                most = Math.max(most, ends[s]);
            }
            return most;
        }

        /** The days that k tailors take in all; there must be an ORDER. */
        int daysOfTailors(int k) {
            Arrays.fill(free, 0);
            Arrays.fill(ends, FAR);
            int begunOnes = 0;
            int most = 0;
            for (int day = 0; day < DAYS && begunOnes != (1 << seams) - 1; day++) {
                for (int tailor = 0; tailor < k && tailor < MOST_TAILORS; tailor++) {
                    int s = free[tailor] <= day ? readyOn(day, begunOnes) : NONE;
                    if (s != NONE) {
                        begunOnes |= 1 << s;
                        ends[s] = day + begun(coat.stitches[s], coat.pace);
                        free[tailor] = ends[s];
                        most = Math.max(most, ends[s]);
                    }
                }
            }
            return most;
        }

        int readyOn(int day, int begunOnes) {
            int doneOnes = 0;
            for (int s = 0; s < seams; s++) {
                if (ends[s] <= day) {
                    doneOnes |= 1 << s;
                }
            }
            for (int s = 0; s < seams; s++) {
                if ((begunOnes >> s & 1) == 0 && (before[s] & ~doneOnes) == 0) {
                    return s;
                }
            }
            return NONE;
        }

        /** The fewest spools for a set of SEAMS, each of which is no longer than a spool. */
        int fewestSpools(int ones, int length) {
            // The table holds spools times 100, and what is used of the last one: less is always better.
            table[0] = length;
            for (int set = 1; set < 1 << seams; set++) {
                table[set] = FAR;
                for (int s = 0; s < seams; s++) {
                    if ((set & ~ones) == 0 && (set >> s & 1) == 1) {
                        table[set] = Math.min(table[set], wound(table[set & ~(1 << s)], coat.stitches[s], length));
                    }
                }
            }
            return ones < 0 || ones >= SETS ? 0 : table[ones] / 100;
        }

        static int wound(int spools, int stitches, int length) {
            int used = spools % 100;
            return used + stitches <= length ? spools + stitches : spools - used + 100 + stitches;
        }
    }

    /** The ROUNDS of a TOWN: one is gone, WEARER by WEARER, forth and back. */
    private static final class Walk {
        // All rows of unlike ones of six, the empty one too.
        static final int ALL_ROUNDS = 1957;

        Town town = new Town();
        int x;
        int y;
        int length;
        int used;
        int unsewn;
        final int[] row = new int[MOST_WEARERS];
        final int[] days = new int[MOST_WEARERS];
        final int[] lates = new int[MOST_WEARERS];
        final int[] best = new int[MOST_WEARERS];

        void begin(Town t, int fromX, int fromY) {
            town = t;
            x = fromX;
            y = fromY;
            length = 0;
            used = 0;
            unsewn = 0;
            for (int w = 0; w < t.wearers; w++) {
                unsewn += t.daysOfSewing(w);
            }
        }

        /** Goes on to a WEARER; false, and nothing is done, if there is none such or he was sewn for. */
        boolean go(int w) {
            if (!town.hasWearer(w) || (used >> w & 1) == 1 || length >= MOST_WEARERS) {
                return false;
            }
            int last = length > 0 ? row[length - 1] : NONE;
            int fromX = town.hasWearer(last) ? town.xs[last] : x;
            int fromY = town.hasWearer(last) ? town.ys[last] : y;
            int day = town.lastDay(w, lastDone() + 1 + town.daysTo(fromX, fromY, w));
            lates[length] = lateSum() + Math.max(0, day - town.dues[w]);
            row[length] = w;
            days[length] = day;
            used |= 1 << w;
            unsewn -= town.daysOfSewing(w);
            length++;
            return true;
        }

        /** Goes back from the last WEARER: his number, NONE if there was none. */
        int back() {
            if (length < 1) {
                return NONE;
            }
            length--;
            int w = row[length];
            used &= ~(1 << w);
            unsewn += town.daysOfSewing(w);
            return w;
        }

        /** The next ROUND by numbers, longer ones behind those they begin with, or leaving out those longer than this one. */
        boolean turn(boolean longer) {
            int from = longer ? 0 : back() + 1;
            for (int i = 0; i <= MOST_WEARERS; i++) {
                for (int w = from; w < town.wearers; w++) {
                    if (go(w)) {
                        return true;
                    }
                }
                if (length == 0) {
                    return false;
                }
                from = back() + 1;
            }
            return false;
        }

        int lastDone() {
            return length > 0 ? days[length - 1] : NONE;
        }

        int lateSum() {
            return length > 0 ? lates[length - 1] : 0;
        }

        void keepBest() {
            System.arraycopy(row, 0, best, 0, MOST_WEARERS);
        }

        /** MOST, its ROUND in best. */
        int most() {
            int most = 0;
            boolean longer = true;
            for (int i = 0; i < ALL_ROUNDS && turn(longer); i++) {
                longer = lateSum() == 0;
                if (longer && length > most) {
                    most = length;
                    keepBest();
                }
            }
            return most;
        }

        /** SOON, if it is below a day, its ROUND in best; else that day. */
        int soonest(int below) {
            int least = below;
            boolean longer = true;
            for (int i = 0; i < ALL_ROUNDS && turn(longer); i++) {
                // What is left takes at least its days of sewing.
                int day = lastDone() + unsewn;
                longer = day < least;
                if (longer && length == town.wearers) {
                    least = day;
                    keepBest();
                }
            }
            return least;
        }

        int leastLate() {
            int least = FAR;
            boolean longer = true;
            for (int i = 0; i < ALL_ROUNDS && turn(longer); i++) {
                longer = lateSum() < least;
                if (longer && length == town.wearers) {
                    least = lateSum();
                }
            }
            return least;
        }

        /** GUILD. */
        int lateByDue() {
            for (int i = 0; i < town.wearers; i++) {
                int next = NONE;
                for (int w = 0; w < town.wearers; w++) {
                    boolean left = (used >> w & 1) == 0;
                    if (left && (next == NONE || town.dues[w] < town.dues[next])) {
                        next = w;
                    }
                }
                go(next);
            }
            return lateSum();
        }
    }
}
