/** The ORDERS of a COAT and what it takes: promises 10 to 13 and 22 to 25. */
final class OrderEdges {
    private static final int NONE = SewnYear.NONE;
    private static final int LOW = Integer.MIN_VALUE;
    private static final int HIGH = Integer.MAX_VALUE;
    private static final int[] NO_COATS = {-1, 1, 2, LOW, HIGH};

    private static final String ONE = "seam 1 0 0;";
    /** Each SEAM AFTER the one ahead by numbers. */
    private static final String ROW = "after 1 0;after 2 1;after 3 2;after 4 3;after 5 4;after 6 5;after 7 6;after 8 7;";
    /** SEAM 0 is free, but there is no ORDER. */
    private static final String RING = ONE + ONE + ONE + "after 1 2;after 2 1;";

    private OrderEdges() {
    }

    private static SewnYear of(String coat) {
        SewnYear x = new SewnYear();
        Due.is(coat, Tape.tell(x, 0, coat), 0);
        return x;
    }

    private static String nine(String seam) {
        return Tape.times(seam, 9);
    }

    private static void rowIs(String coat, int what, int... due) {
        SewnYear x = of(coat);
        for (int k = 0; k < due.length; k++) {
            Due.is(coat + " what " + what + " of " + k, x.order(0, k, what), due[k]);
        }
    }

    private static void sewnIs(String coat, int what, int due) {
        Due.is(coat + " what " + what, of(coat).sewn(0, what), due);
    }

    // Promise 10

    static void p10_fromNoneToAll() {
        Due.is("a ring", of(RING).orders(0), 0);
        Due.is("a row", of(nine(ONE) + ROW).orders(0), 1);
        Due.is("one SEAM", of(ONE).orders(0), 1);
        Due.is("two SEAMS", of(ONE + ONE).orders(0), 2);
        Due.is("nine SEAMS", of(nine(ONE)).orders(0), 362880);
        Due.is("nine, one AFTER another one", of(nine(ONE) + "after 8 0;").orders(0), 181440);
    }

    static void p10_withoutSeams() {
        Due.is("the row of none", of("").orders(0), 1);
    }

    static void p10_ringOfTwoAndOfNine() {
        Due.is("of two", of(ONE + ONE + "after 0 1;after 1 0;").orders(0), 0);
        Due.is("of nine", of(nine(ONE) + ROW + "after 0 8;").orders(0), 0);
    }

    static void p10_noneSuch() {
        Due.is("none", new SewnYear().orders(0), NONE);
        SewnYear x = of("");
        for (int k : NO_COATS) {
            Due.is("coat " + k, x.orders(k), NONE);
        }
        Tape.tell(x, 0, ONE + ONE);
        Due.is("the second", x.orders(1), 2);
        Due.is("a third", x.orders(2), NONE);
    }

    // Promise 11

    static void p11_eachSeamAndPlaceAndNoOther() {
        SewnYear x = of(nine(ONE));
        SewnYear y = of(ONE + ONE);
        for (int what = 0; what < 5; what++) {
            Due.is("the first of nine", x.order(0, 0, what), what == 2 ? 8 : 0);
            Due.is("the last of nine", x.order(0, 8, what), what == 1 ? 0 : 8);
            Due.is("the last of two", y.order(0, 1, what), what == 1 ? 0 : 1);
            Due.is("a third of two", y.order(0, 2, what), NONE);
            for (int k : new int[] {-2, -1, 9, 10, LOW, HIGH}) {
                Due.is("of " + k + " what " + what, x.order(0, k, what), NONE);
            }
        }
    }

    static void p11_anotherWhat() {
        SewnYear x = of(ONE);
        for (int what : new int[] {-2, -1, 5, 6, LOW, HIGH}) {
            Due.is("what " + what, x.order(0, 0, what), NONE);
        }
    }

    static void p11_noOrder() {
        SewnYear x = of(RING);
        for (int what = 0; what < 5; what++) {
            for (int k = 0; k < 3; k++) {
                Due.is("of " + k + " what " + what, x.order(0, k, what), NONE);
            }
        }
    }

    static void p11_withoutSeams() {
        SewnYear x = of("");
        for (int what = 0; what < 5; what++) {
            Due.is("what " + what, x.order(0, 0, what), NONE);
        }
    }

    static void p11_noneSuch() {
        Due.is("none", new SewnYear().order(0, 0, 0), NONE);
        SewnYear x = of(ONE);
        for (int k : NO_COATS) {
            Due.is("coat " + k, x.order(k, 0, 0), NONE);
        }
    }

    static void p11_theFirstByNumbers() {
        rowIs(nine(ONE), 0, 0, 1, 2, 3, 4, 5, 6, 7, 8);
        rowIs(nine(ONE) + "after 0 8;", 0, 1, 2, 3, 4, 5, 6, 7, 8, 0);
        rowIs(ONE + ONE + ONE + "after 0 1;", 0, 1, 0, 2);
        rowIs(nine(ONE) + "after 0 1;after 1 2;after 2 3;after 3 4;after 4 5;after 5 6;after 6 7;after 7 8;", 0,
            8, 7, 6, 5, 4, 3, 2, 1, 0);
    }

    static void p11_earlyAndLate() {
        rowIs(nine(ONE) + ROW, 1, 0, 1, 2, 3, 4, 5, 6, 7, 8);
        rowIs(nine(ONE) + ROW, 2, 0, 1, 2, 3, 4, 5, 6, 7, 8);
        rowIs(nine(ONE), 1, 0, 0, 0, 0, 0, 0, 0, 0, 0);
        rowIs(nine(ONE), 2, 8, 8, 8, 8, 8, 8, 8, 8, 8);
        rowIs(ONE, 1, 0);
        rowIs(ONE, 2, 0);
        // Two ways from 0 to 3: those between count once.
        rowIs(Tape.times(ONE, 4) + "after 1 0;after 2 0;after 3 1;after 3 2;", 1, 0, 1, 1, 3);
        rowIs(Tape.times(ONE, 4) + "after 1 0;after 2 0;after 3 1;after 3 2;", 2, 0, 2, 2, 3);
    }

    static void p11_earlyAndLateByAllThatIsNeeded() {
        rowIs(ONE + ONE + ONE + "after 0 1;after 2 0;", 1, 1, 0, 2);
        rowIs(ONE + ONE + ONE + "after 0 1;after 2 0;", 2, 1, 0, 2);
        rowIs(ONE + ONE + ONE + ONE + "after 0 1;after 2 0;", 1, 1, 0, 2, 0);
        rowIs(ONE + ONE + ONE + ONE + "after 0 1;after 2 0;", 2, 2, 1, 3, 3);
    }

    static void p11_theFirstOfSeveralByLeast() {
        rowIs(ONE + ONE + ONE, 3, 0, 1, 2);
        // On day 0 one would BURST, on days 1 and 2 none: that with EASE first, the others by numbers.
        rowIs("seam 1 0 0;seam 1 0 0;seam 1 0 1;grows 1 1;", 3, 2, 0, 1);
        rowIs("seam 1 0 0;seam 1 0 1;seam 1 0 1;grows 1 1;", 3, 1, 0, 2);
        // One bursts whichever is first.
        rowIs("seam 1 0 0;seam 1 0 0;grows 1 1;", 3, 0, 1);
    }

    static void p11_theFirstOfSeveralThreaded() {
        rowIs("seam 1 1 0;seam 1 0 0;seam 1 1 0;", 4, 0, 2, 1);
        rowIs("seam 1 3 0;seam 1 2 0;seam 1 1 0;seam 1 0 0;", 4, 0, 1, 2, 3);
        rowIs("seam 1 0 0;seam 1 3 0;seam 1 0 0;seam 1 3 0;after 0 1;", 4, 1, 3, 0, 2);
        rowIs("seam 1 0 0;seam 1 3 0;seam 1 0 0;seam 1 3 0;after 1 0;", 4, 0, 2, 1, 3);
    }

    // Promise 12

    static void p12_anotherWhat() {
        SewnYear x = of(ONE);
        for (int what : new int[] {-2, -1, 4, 5, LOW, HIGH}) {
            Due.is("what " + what, x.sewn(0, what), NONE);
        }
    }

    static void p12_noOrder() {
        for (int what = 0; what < 4; what++) {
            sewnIs(RING, what, NONE);
            sewnIs(nine(ONE) + ROW + "after 0 8;", what, NONE);
        }
    }

    static void p12_noneSuch() {
        for (int what = 0; what < 4; what++) {
            Due.is("none", new SewnYear().sewn(0, what), NONE);
            SewnYear x = of(ONE);
            for (int k : NO_COATS) {
                Due.is("coat " + k, x.sewn(k, what), NONE);
            }
        }
    }

    static void p12_withoutSeams() {
        for (int what = 0; what < 4; what++) {
            sewnIs("grows 1 9;", what, 0);
        }
    }

    static void p12_leastIfMoreThanEase() {
        for (int ease = 0; ease < 9; ease++) {
            sewnIs("seam 1 0 " + ease + ";grows 1 " + ease + ";", 0, 0);
            sewnIs("seam 1 0 " + ease + ";grows 1 " + (ease + 1) + ";", 0, 1);
        }
        sewnIs("seam 1 0 9;grows 99 9;", 0, 0);
        sewnIs("seam 1 0 9;grows 98 1;grows 99 9;", 0, 1);
        sewnIs("seam 1 0 9;grows 1 9;grows 99 1;", 0, 1);
    }

    static void p12_leastByTheDaysBehindAlone() {
        sewnIs("seam 1 0 0;grows 0 9;", 0, 0);
        sewnIs("seam 1 0 0;grows 1 1;", 0, 1);
        sewnIs("seam 1 0 0;grows 99 1;", 0, 1);
        sewnIs("seam 2 0 0;grows 1 9;", 0, 0);
        sewnIs("seam 2 0 0;grows 2 1;", 0, 1);
    }

    static void p12_leastByTheDayOfTheLastStitch() {
        for (int pace = 1; pace <= 8; pace++) {
            String even = "seam " + pace + " 0 0;pace " + pace + ";";
            String more = "seam " + (pace + 1) + " 0 0;pace " + pace + ";";
            sewnIs(even + "grows 1 1;", 0, 1);
            sewnIs(even + "grows 0 9;", 0, 0);
            sewnIs(more + "grows 1 9;", 0, 0);
            sewnIs(more + "grows 2 1;", 0, 1);
        }
    }

    static void p12_leastSewnWithoutADayOfRest() {
        // What is left of a day's PACE is for the next SEAM: both are done on day 0.
        sewnIs("seam 1 0 0;seam 1 0 0;pace 2;grows 1 1;", 0, 2);
        sewnIs("seam 1 0 0;seam 1 0 0;pace 1;grows 1 1;", 0, 1);
        sewnIs("seam 2 0 0;seam 2 0 0;pace 3;grows 1 1;", 0, 1);
    }

    static void p12_leastOnTheLastDayThatCanBe() {
        sewnIs(nine("seam 9 0 0;") + "grows 80 9;", 0, 8);
        sewnIs(nine("seam 9 0 0;") + "grows 81 9;", 0, 9);
        sewnIs(nine("seam 9 0 9;") + "grows 81 9;grows 99 1;", 0, 9);
    }

    static void p12_threadsFromNoneToEight() {
        sewnIs(ONE, 1, 0);
        sewnIs(nine(ONE), 1, 0);
        sewnIs("seam 1 0 0;seam 1 1 0;seam 1 2 0;seam 1 3 0;", 1, 3);
        sewnIs(Tape.times("seam 1 0 0;seam 1 3 0;", 4) + ONE + ROW, 1, 8);
        sewnIs(Tape.times("seam 1 0 0;seam 1 3 0;", 4) + ONE, 1, 1);
    }

    static void p12_chainFromOneToAll() {
        sewnIs(ONE, 2, 1);
        sewnIs(nine("seam 9 0 0;"), 2, 9);
        sewnIs(nine("seam 9 0 0;") + ROW, 2, 81);
        sewnIs("seam 9 0 0;seam 1 0 0;seam 1 0 0;after 2 1;", 2, 9);
        sewnIs("seam 9 0 0;seam 5 0 0;seam 5 0 0;after 2 1;pace 9;", 2, 10);
        sewnIs("seam 1 0 0;seam 2 0 0;seam 3 0 0;seam 1 0 0;after 3 0;after 3 1;after 3 2;", 2, 4);
    }

    static void p12_teamByDaysBegun() {
        for (int pace = 1; pace <= 8; pace++) {
            sewnIs("seam " + pace + " 0 0;pace " + pace + ";", 3, 1);
            sewnIs("seam " + (pace + 1) + " 0 0;pace " + pace + ";", 3, 2);
        }
        sewnIs(nine("seam 9 0 0;"), 3, 9);
        sewnIs(nine("seam 9 0 0;") + ROW, 3, 81);
        sewnIs(nine("seam 9 0 0;") + ROW + "pace 9;", 3, 9);
        sewnIs(nine("seam 1 0 0;") + ROW + "pace 9;", 3, 9);
        sewnIs(nine("seam 9 0 0;") + ROW + "pace 8;", 3, 18);
    }

    // Promise 13

    private static void partedIs(String coat, int a, int b, int couples, int side) {
        SewnYear x = of(coat);
        Due.is(coat + " " + a + " " + b, x.parted(0, a, b, false), couples);
        Due.is(coat + " " + a + " " + b + " side", x.parted(0, a, b, true), side);
    }

    static void p13_bothAreOne() {
        for (int s = 0; s < 9; s++) {
            partedIs(nine(ONE), s, s, NONE, NONE);
        }
    }

    static void p13_aSeamThatIsNotThere() {
        for (int k : new int[] {-2, -1, 9, 10, 31, 32, LOW, HIGH}) {
            partedIs(nine(ONE), 0, k, NONE, NONE);
            partedIs(nine(ONE), k, 8, NONE, NONE);
        }
        partedIs(ONE + ONE, 0, 1, 0, 1);
        partedIs(ONE + ONE, 0, 2, NONE, NONE);
        partedIs(ONE + ONE, 2, 1, NONE, NONE);
        partedIs(ONE, 0, 1, NONE, NONE);
        partedIs("", 0, 1, NONE, NONE);
    }

    static void p13_noneSuch() {
        Due.is("none", new SewnYear().parted(0, 0, 1, false), NONE);
        SewnYear x = of(ONE + ONE);
        for (int k : NO_COATS) {
            Due.is("coat " + k, x.parted(k, 0, 1, false), NONE);
            Due.is("side of " + k, x.parted(k, 0, 1, true), NONE);
        }
    }

    static void p13_fromNoCoupleToEight() {
        partedIs(nine(ONE), 8, 0, 0, 256);
        partedIs(nine(ONE) + ROW, 8, 0, 1, 256);
        partedIs(nine(ONE) + ROW, 0, 8, 1, 1);
        StringBuilder all = new StringBuilder(nine(ONE));
        for (int a = 1; a < 9; a++) {
            for (int b = 0; b < a; b++) {
                all.append("after").append(a).append(' ').append(b).append(';');
            }
        }
        partedIs(all.toString(), 0, 8, 8, 1);
        partedIs(all.toString(), 8, 0, 8, 256);
    }

    static void p13_theLeastSideOfSeveral() {
        String three = ONE + ONE + ONE;
        // Sides {2} and {1, 2} part one couple each.
        partedIs(three + "after 1 0;after 2 1;", 2, 0, 1, 4);
        partedIs(three + "after 1 0;after 2 1;", 0, 2, 1, 1);
        // 1 is tied to 2 alone: it goes with it.
        partedIs(three + "after 2 1;", 2, 0, 0, 6);
        partedIs(three + "after 2 1;", 0, 2, 0, 1);
    }

    static void p13_aCoupleCountsOnce() {
        partedIs(ONE + ONE + "after 0 1;after 1 0;after 0 1;", 0, 1, 1, 1);
        partedIs(ONE + ONE + "after 0 1;after 1 0;after 0 1;", 1, 0, 1, 2);
    }

    static void p13_whicheverOfTheTwoComesAfter() {
        partedIs(ONE + ONE + "after 0 1;", 0, 1, 1, 1);
        partedIs(ONE + ONE + "after 0 1;", 1, 0, 1, 2);
        partedIs(ONE + ONE + "after 1 0;", 0, 1, 1, 1);
        partedIs(ONE + ONE + "after 1 0;", 1, 0, 1, 2);
    }

    static void p13_anOrderIsNotWanted() {
        partedIs(RING, 0, 1, 0, 1);
        partedIs(RING, 1, 0, 0, 6);
        partedIs(RING, 1, 2, 1, 2);
    }

    // Promise 22

    private static void underIs(String coat, int seam, int bits, int soonest) {
        SewnYear x = of(coat);
        Due.is(coat + " UNDER " + seam, x.under(0, seam, 0), bits);
        Due.is(coat + " SOONEST " + seam, x.under(0, seam, 1), soonest);
    }

    static void p22_underFromNoneToAllOthers() {
        for (int s = 0; s < 9; s++) {
            underIs(nine(ONE) + ROW, s, 511 & -2 << s, s);
            underIs(nine(ONE), s, 0, 0);
        }
    }

    static void p22_underOnceByTwoWays() {
        underIs(Tape.times(ONE, 4) + "after 1 0;after 2 0;after 3 1;after 3 2;", 0, 14, 0);
        underIs(Tape.times(ONE, 4) + "after 1 0;after 2 0;after 3 1;after 3 2;", 3, 0, 3);
    }

    static void p22_underOfAHigherNumber() {
        String coat = ONE + ONE + ONE + "after 0 1;after 2 0;";
        underIs(coat, 0, 4, 1);
        underIs(coat, 1, 5, 0);
        underIs(coat, 2, 0, 2);
    }

    static void p22_soonestByDaysBegun() {
        for (int pace = 1; pace <= 8; pace++) {
            underIs("seam " + pace + " 0 0;pace " + pace + ";", 0, 0, 0);
            underIs("seam " + (pace + 1) + " 0 0;pace " + pace + ";", 0, 0, 1);
        }
        underIs(nine("seam 9 0 0;") + ROW, 8, 0, 80);
        underIs(nine("seam 9 0 0;") + ROW + "pace 9;", 8, 0, 8);
        underIs(nine("seam 9 0 0;") + ROW + "pace 8;", 8, 0, 10);
    }

    static void p22_soonestSewsJustWhatItNeeds() {
        String coat = "seam 9 0 0;seam 2 0 0;seam 1 0 0;after 2 1;pace 3;";
        underIs(coat, 0, 0, 2);
        underIs(coat, 1, 4, 0);
        underIs(coat, 2, 0, 0);
        underIs("seam 2 0 0;seam 2 0 0;after 1 0;pace 3;", 1, 0, 1);
    }

    static void p22_noOrder() {
        for (int s = 0; s < 3; s++) {
            underIs(RING, s, NONE, NONE);
        }
    }

    static void p22_aSeamThatIsNotThere() {
        for (int k : new int[] {-2, -1, 9, 10, LOW, HIGH}) {
            underIs(nine(ONE), k, NONE, NONE);
        }
        underIs(ONE, 0, 0, 0);
        underIs(ONE, 1, NONE, NONE);
        underIs("", 0, NONE, NONE);
    }

    static void p22_anotherWhat() {
        SewnYear x = of(ONE);
        for (int what : new int[] {-2, -1, 2, 3, LOW, HIGH}) {
            Due.is("what " + what, x.under(0, 0, what), NONE);
        }
    }

    static void p22_noneSuch() {
        Due.is("none", new SewnYear().under(0, 0, 0), NONE);
        SewnYear x = of(ONE);
        for (int k : NO_COATS) {
            Due.is("coat " + k, x.under(k, 0, 0), NONE);
            Due.is("soonest of " + k, x.under(k, 0, 1), NONE);
        }
    }

    // Promise 23

    private static void handsAre(String coat, int... days) {
        SewnYear x = of(coat);
        for (int k = 1; k <= days.length; k++) {
            Due.is(coat + " HANDS of " + k, x.hands(0, k), days[k - 1]);
        }
    }

    static void p23_fromOneToFour() {
        SewnYear x = of(ONE);
        Due.is("of 0", x.hands(0, 0), NONE);
        Due.is("of 1", x.hands(0, 1), 1);
        Due.is("of 4", x.hands(0, 4), 1);
        for (int k : new int[] {-1, 5, 6, LOW, HIGH}) {
            Due.is("of " + k, x.hands(0, k), NONE);
        }
    }

    static void p23_noOrder() {
        handsAre(RING, NONE, NONE, NONE, NONE);
    }

    static void p23_withoutSeams() {
        handsAre("", 0, 0, 0, 0);
    }

    static void p23_noneSuch() {
        Due.is("none", new SewnYear().hands(0, 1), NONE);
        SewnYear x = of(ONE);
        for (int k : NO_COATS) {
            Due.is("coat " + k, x.hands(k, 1), NONE);
        }
    }

    static void p23_asLongAsItCanBe() {
        handsAre(nine("seam 9 0 0;"), 81, 45, 27, 27);
        handsAre(nine("seam 9 0 0;") + ROW, 81, 81, 81, 81);
    }

    static void p23_whatIsLeftOfADayIsLost() {
        handsAre(nine(ONE) + "pace 9;", 9, 5, 3, 3);
        handsAre("seam 9 0 0;seam 1 0 0;pace 8;", 3, 2, 2, 2);
        handsAre("seam 8 0 0;seam 1 0 0;pace 8;", 2, 1, 1, 1);
    }

    static void p23_doneOnDaysAhead() {
        handsAre(ONE + ONE + "after 1 0;pace 9;", 2, 2, 2, 2);
        handsAre("seam 3 0 0;seam 1 0 0;after 1 0;", 4, 4, 4, 4);
    }

    static void p23_theLeastNumberFirst() {
        handsAre("seam 1 0 0;seam 1 0 0;seam 9 0 0;", 11, 10, 9, 9);
        handsAre("seam 9 0 0;seam 1 0 0;seam 1 0 0;", 11, 9, 9, 9);
    }

    static void p23_askedOfOneAndThenOfAnother() {
        SewnYear x = of(nine(ONE) + "pace 9;");
        Tape.tell(x, 0, nine("seam 9 0 0;") + ROW);
        for (int i = 0; i < 2; i++) {
            Due.is("of the first", x.hands(0, 4), 3);
            Due.is("of the second", x.hands(1, 4), 81);
            Due.is("of the second", x.hands(1, 1), 81);
            Due.is("of the first", x.hands(0, 1), 9);
        }
    }

    static void p23_someWaitWhileOneSews() {
        // 0 and 1 at once, 2 waits for 1, then is taken though 0 is not done.
        handsAre("seam 5 0 0;seam 2 0 0;seam 3 0 0;after 2 1;", 10, 5, 5, 5);
        handsAre("seam 5 0 0;seam 2 0 0;seam 4 0 0;after 2 1;", 11, 6, 6, 6);
    }

    // Promise 24

    private static void spoolsAre(String coat, int length, int due) {
        Due.is(coat + " SPOOLS of " + length, of(coat).spools(0, length), due);
    }

    static void p24_lengthsFromOneToSixty() {
        spoolsAre(ONE, 0, NONE);
        spoolsAre(ONE, 1, 1);
        spoolsAre(ONE, 60, 1);
        for (int length : new int[] {-1, 61, 62, LOW, HIGH}) {
            spoolsAre(ONE, length, NONE);
            spoolsAre("", length, NONE);
        }
        spoolsAre("", 0, NONE);
    }

    static void p24_withoutSeams() {
        spoolsAre("", 1, 0);
        spoolsAre("", 60, 0);
    }

    static void p24_aSeamIsLonger() {
        for (int stitches = 2; stitches <= 9; stitches++) {
            String coat = "seam 1 0 0;seam " + stitches + " 1 0;seam 1 2 0;";
            spoolsAre(coat, stitches - 1, NONE);
            spoolsAre(coat, stitches, 3);
        }
        spoolsAre("seam 9 0 0;seam 1 0 0;", 8, NONE);
        spoolsAre("seam 9 0 0;seam 1 0 0;", 9, 2);
        spoolsAre("seam 1 0 0;seam 9 0 0;", 8, NONE);
        spoolsAre("seam 1 0 0;seam 9 0 0;", 9, 2);
    }

    static void p24_aSpoolThatIsJustLongEnough() {
        spoolsAre("seam 5 2 0;seam 4 2 0;", 9, 1);
        spoolsAre("seam 5 2 0;seam 4 2 0;", 8, 2);
        spoolsAre(nine("seam 9 3 0;"), 9, 9);
        spoolsAre(nine("seam 9 3 0;"), 17, 9);
        spoolsAre(nine("seam 9 3 0;"), 18, 5);
        spoolsAre(nine("seam 9 3 0;"), 53, 2);
        spoolsAre(nine("seam 9 3 0;"), 60, 2);
        spoolsAre(nine("seam 6 3 0;"), 54, 1);
        spoolsAre(nine("seam 6 3 0;"), 53, 2);
    }

    static void p24_coloursApart() {
        spoolsAre("seam 1 0 0;seam 1 1 0;seam 1 2 0;seam 1 3 0;", 60, 4);
        spoolsAre("seam 1 0 0;seam 1 3 0;seam 1 0 0;seam 1 3 0;", 60, 2);
    }

    static void p24_theFewestNotTheFirstThatFit() {
        spoolsAre("seam 4 0 0;seam 4 0 0;seam 3 0 0;seam 3 0 0;seam 3 0 0;seam 3 0 0;", 10, 2);
        spoolsAre("seam 4 0 0;seam 6 0 0;seam 5 0 0;seam 5 0 0;", 10, 2);
    }

    static void p24_anOrderIsNotWanted() {
        spoolsAre(RING, 3, 1);
        spoolsAre(RING, 2, 2);
    }

    static void p24_noneSuch() {
        Due.is("none", new SewnYear().spools(0, 9), NONE);
        SewnYear x = of(ONE);
        for (int k : NO_COATS) {
            Due.is("coat " + k, x.spools(k, 9), NONE);
        }
    }

    // Promise 25

    private static void grownIs(String coat, int n, int day) {
        Due.is(coat + " GROWN by " + n, of(coat).grown(0, n), day);
    }

    static void p25_byNothing() {
        for (int n : new int[] {0, -1, LOW}) {
            grownIs("", n, 0);
            grownIs("grows 0 9;", n, 0);
            grownIs("grows 99 9;", n, 0);
        }
    }

    static void p25_onNone() {
        grownIs("", 1, NONE);
        grownIs("", HIGH, NONE);
        grownIs("grows 0 1;grows 50 9;grows 99 9;", 20, NONE);
    }

    static void p25_thatDaysToo() {
        String coat = "grows 0 1;grows 50 9;grows 99 9;";
        grownIs(coat, 1, 0);
        grownIs(coat, 2, 50);
        grownIs(coat, 10, 50);
        grownIs(coat, 11, 99);
        grownIs(coat, 19, 99);
    }

    static void p25_asMuchAsCanBeTold() {
        StringBuilder all = new StringBuilder();
        for (int day = 0; day < 61; day++) {
            all.append("grows").append(day).append(" 9;");
        }
        Due.is("600 bytes", all.length(), 600);
        grownIs(all.toString(), 549, 60);
        grownIs(all.toString(), 550, NONE);
    }

    static void p25_noneSuch() {
        Due.is("none", new SewnYear().grown(0, 0), NONE);
        SewnYear x = of("");
        for (int k : NO_COATS) {
            Due.is("coat " + k, x.grown(k, 0), NONE);
        }
    }
}
