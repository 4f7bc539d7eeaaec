/** The ROUNDS of a TOWN: promises 15, 16, 26 and 27. */
final class TownEdges {
    private static final int NONE = SewnYear.NONE;
    private static final int LOW = Integer.MIN_VALUE;
    private static final int HIGH = Integer.MAX_VALUE;
    private static final int[] NO_TOWNS = {-1, 1, 2, LOW, HIGH};

    private static final String ONE = "wearer 0 0 1 0;";
    /** Six at one place, each of one day. */
    private static final String SIX = Tape.times(ONE, 6);

    private TownEdges() {
    }

    private static SewnYear of(String town) {
        SewnYear x = new SewnYear();
        Due.is(town, Tape.tell(x, 2, town), 0);
        return x;
    }

    /** A ROUND by its figures. */
    private static int round(int... wearers) {
        int round = 0;
        for (int w : wearers) {
            round = round * 6 + w;
        }
        return round;
    }

    /** DONE of the first WEARER, alone. */
    private static void doneIs(String town, int day) {
        Due.is(town + " DONE", of(town).done(0, 0, 1, 0), day);
    }

    // Promise 15

    static void p15_figuresTheFirstTheHighest() {
        SewnYear x = of("speed 1;wearer 0 0 1 0;wearer 0 0 2 0;wearer 0 0 4 0;wearer 0 0 8 0;wearer 0 0 16 0;"
            + "wearer 0 0 30 0;");
        int[][] rounds = {{0, 1, 2, 3, 4, 5}, {5, 4, 3, 2, 1, 0}, {1, 2, 3, 4, 5}, {5, 0}, {0, 5}, {0}, {5}};
        int[] days = {1, 2, 4, 8, 16, 30};
        for (int[] row : rounds) {
            int done = -1;
            for (int k = 0; k < row.length; k++) {
                done += days[row[k]];
                Due.is("ROUND " + round(row) + " of " + row.length + " at " + k, x.done(0, round(row), row.length, k), done);
            }
        }
    }

    static void p15_fromOneToSix() {
        SewnYear x = of(SIX);
        for (int n = 1; n <= 6; n++) {
            int[] row = new int[n];
            for (int i = 0; i < n; i++) {
                row[i] = 5 - i;
            }
            Due.is("of " + n, x.done(0, round(row), n, n - 1), n - 1);
            Due.is("behind the last of " + n, x.done(0, round(row), n, n), NONE);
        }
        for (int n : new int[] {-1, 0, 7, 8, LOW, HIGH}) {
            Due.is("of " + n, x.done(0, 0, n, 0), NONE);
            Due.is("many of " + n, x.done(0, round(5, 4, 3, 2, 1, 0), n, 0), NONE);
        }
        Due.is("seven figures", x.done(0, round(1, 0, 2, 3, 4, 5, 0), 7, 0), NONE);
    }

    static void p15_asManyFiguresAsN() {
        SewnYear x = of(SIX);
        int power = 1;
        for (int n = 1; n <= 6; n++) {
            int[] row = new int[n];
            for (int i = 0; i < n; i++) {
                row[i] = 5 - i;
            }
            power *= 6;
            Due.is("one figure more, of " + n, x.done(0, power + round(row), n, 0), NONE);
            Due.is("the first that is longer, of " + n, x.done(0, power, n, 0), NONE);
            Due.is("the last that is not", x.done(0, power - 1, n, 0), n == 1 ? 0 : NONE);
        }
        for (int round : new int[] {-1, LOW, HIGH}) {
            for (int n = 1; n <= 6; n++) {
                Due.is("ROUND " + round + " of " + n, x.done(0, round, n, 0), NONE);
            }
        }
    }

    static void p15_noughtsAhead() {
        SewnYear x = of(SIX);
        Due.is("0, 1 of 2", x.done(0, 1, 2, 1), 1);
        Due.is("1 of 1", x.done(0, 1, 1, 0), 0);
        Due.is("0, 0, 1 of 3", x.done(0, 1, 3, 0), NONE);
    }

    static void p15_fromTheFirstToTheLast() {
        SewnYear x = of(SIX);
        for (int k = 0; k < 6; k++) {
            Due.is("k " + k, x.done(0, round(0, 1, 2, 3, 4, 5), 6, k), k);
        }
        for (int k : new int[] {-2, -1, 6, 7, LOW, HIGH}) {
            Due.is("k " + k, x.done(0, round(0, 1, 2, 3, 4, 5), 6, k), NONE);
        }
    }

    static void p15_oneIsNotThere() {
        SewnYear x = of(ONE + ONE + ONE);
        Due.is("the last one", x.done(0, 2, 1, 0), 0);
        for (int w = 3; w < 6; w++) {
            Due.is(w + " alone", x.done(0, w, 1, 0), NONE);
            Due.is(w + " behind", x.done(0, round(0, w), 2, 0), NONE);
            Due.is(w + " ahead", x.done(0, round(w, 0), 2, 1), NONE);
        }
        Due.is("no WEARERS", of("").done(0, 0, 1, 0), NONE);
    }

    static void p15_oneIsTwiceThere() {
        SewnYear x = of(SIX);
        int[][] rows = {{0, 0}, {5, 5}, {0, 1, 0}, {1, 0, 0}, {0, 1, 2, 3, 4, 0}, {5, 4, 3, 2, 1, 1}};
        for (int[] row : rows) {
            for (int k = 0; k < row.length; k++) {
                Due.is("ROUND " + round(row) + " at " + k, x.done(0, round(row), row.length, k), NONE);
            }
        }
    }

    static void p15_noneSuch() {
        Due.is("none", new SewnYear().done(0, 0, 1, 0), NONE);
        SewnYear x = of(ONE);
        for (int k : NO_TOWNS) {
            Due.is("town " + k, x.done(k, 0, 1, 0), NONE);
        }
        Tape.tell(x, 2, "speed 1;wearer 0 0 9 0;");
        Due.is("the second", x.done(1, 0, 1, 0), 8);
    }

    static void p15_aDaysWayBegunIsADay() {
        for (int miles = 1; miles <= 9; miles++) {
            String town = "miles " + miles + ";wearer ";
            doneIs(town + "0 0 1 0;", 0);
            doneIs(town + "1 0 1 0;", 1);
            doneIs(town + miles + " 0 1 0;", 1);
            doneIs(town + "0 " + miles + " 1 0;", 1);
            doneIs(town + miles + " 1 1 0;", 2);
        }
        doneIs("miles 1;wearer 9 9 1 0;", 18);
        doneIs("miles 9;wearer 9 9 1 0;", 2);
        doneIs("miles 1;tailor 9 0;wearer 0 9 1 0;", 18);
        doneIs("miles 1;tailor 9 9;wearer 0 0 1 0;", 18);
    }

    static void p15_aDaysSewingBegunIsADay() {
        for (int speed = 1; speed <= 9; speed++) {
            doneIs("speed " + speed + ";wearer 0 0 1 0;", 0);
            doneIs("speed " + speed + ";wearer 0 0 " + speed + " 0;", 0);
            doneIs("speed " + speed + ";wearer 0 0 " + (speed + 1) + " 0;", 1);
        }
        doneIs("speed 1;wearer 0 0 30 0;", 29);
        doneIs("speed 9;wearer 0 0 30 0;", 3);
    }

    static void p15_goesOnOnTheDayBehind() {
        SewnYear x = of("speed 1;miles 1;wearer 0 0 2 0;wearer 0 0 2 0;wearer 3 0 1 0;");
        Due.is("days 0, 1", x.done(0, round(0, 1, 2), 3, 0), 1);
        Due.is("days 2, 3", x.done(0, round(0, 1, 2), 3, 1), 3);
        Due.is("on the way 4 to 6, day 7", x.done(0, round(0, 1, 2), 3, 2), 7);
        Due.is("from there on", x.done(0, round(2, 0), 2, 1), 8);
    }

    /** He comes on day 5, sews on days 5 to 7. */
    private static void awayIs(String from, String upTo, int day) {
        doneIs("miles 1;speed 1;wearer 5 0 3 0;away 0 " + from + " " + upTo + ";", day);
    }

    static void p15_awayOnOneOfTheDays() {
        doneIs("miles 1;speed 1;wearer 5 0 3 0;", 7);
        awayIs("0", "4", 7);
        awayIs("0", "5", 8);
        awayIs("5", "5", 8);
        awayIs("6", "6", 9);
        awayIs("7", "7", 10);
        awayIs("8", "8", 7);
        awayIs("8", "99", 7);
        awayIs("7", "99", 102);
        awayIs("0", "99", 102);
        awayIs("99", "99", 7);
    }

    static void p15_awayOnTheOnlyDay() {
        doneIs(ONE + "away 0 0 0;", 1);
        doneIs(ONE + "away 0 1 1;", 0);
        doneIs(ONE + "away 0 0 99;", 100);
    }

    static void p15_awayOfAnotherOne() {
        SewnYear x = of(ONE + ONE + "away 1 0 5;");
        Due.is("he is not AWAY", x.done(0, round(0, 1), 2, 0), 0);
        Due.is("the other one is", x.done(0, round(0, 1), 2, 1), 6);
        Due.is("he waits for it", x.done(0, round(1, 0), 2, 1), 7);
    }

    // Promise 16

    private static void roundsAre(String town, int most, int soon, int late, int guild) {
        SewnYear x = of(town);
        int[] due = {most, soon, late, guild};
        for (int what = 0; what < 4; what++) {
            Due.is(town + " what " + what, x.rounds(0, what), due[what]);
        }
    }

    private static void rowIs(String town, int ten, int... due) {
        SewnYear x = of(town);
        for (int k = 0; k < 10; k++) {
            Due.is(town + " " + (ten + k), x.rounds(0, ten + k), k < due.length ? due[k] : NONE);
        }
    }

    static void p16_eachWhatAndNoOther() {
        SewnYear x = of(Tape.times("wearer 0 0 1 9;", 6));
        for (int what = -40; what < 130; what++) {
            int k = Math.floorMod(what, 10);
            boolean row = what >= 10 && what < 30 && k < 6;
            int due = row ? k : what == 0 ? 6 : what == 1 ? 5 : what == 2 || what == 3 ? 0 : NONE;
            Due.is("what " + what, x.rounds(0, what), due);
        }
        Due.is("what LOW", x.rounds(0, LOW), NONE);
        Due.is("what HIGH", x.rounds(0, HIGH), NONE);
    }

    static void p16_noWearers() {
        roundsAre("", 0, NONE, NONE, NONE);
        rowIs("", 10);
        rowIs("", 20);
    }

    static void p16_oneWearer() {
        roundsAre(ONE, 1, 0, 0, 0);
        rowIs(ONE, 10, 0);
        rowIs(ONE, 20, 0);
    }

    static void p16_noneSuch() {
        for (int what : new int[] {0, 1, 2, 3, 10, 20}) {
            Due.is("none", new SewnYear().rounds(0, what), NONE);
            SewnYear x = of(ONE);
            for (int k : NO_TOWNS) {
                Due.is("town " + k, x.rounds(k, what), NONE);
            }
        }
    }

    static void p16_inTimeUpToDue() {
        roundsAre("speed 1;wearer 0 0 5 4;", 1, 4, 0, 0);
        roundsAre("speed 1;wearer 0 0 5 3;", 0, 4, 1, 1);
        rowIs("speed 1;wearer 0 0 5 4;", 10, 0);
        rowIs("speed 1;wearer 0 0 5 3;", 10);
        rowIs("speed 1;wearer 0 0 5 3;", 20, 0);
        roundsAre("speed 1;wearer 0 0 30 99;away 0 0 69;", 1, 99, 0, 0);
        roundsAre("speed 1;wearer 0 0 30 99;away 0 0 70;", 0, 100, 1, 1);
    }

    static void p16_mostOfSome() {
        String town = "wearer 0 0 1 1;wearer 0 0 1 0;wearer 0 0 1 0;";
        roundsAre(town, 2, 2, 2, 2);
        rowIs(town, 10, 1, 0);
        rowIs("wearer 0 0 1 1;wearer 0 0 1 1;wearer 0 0 1 1;", 10, 0, 1);
        rowIs("wearer 0 0 1 1;wearer 0 0 1 1;wearer 0 0 1 1;", 20, 0, 1, 2);
    }

    static void p16_theLastRoundByNumbers() {
        String town = "wearer 0 0 1 5;wearer 0 0 1 4;wearer 0 0 1 3;wearer 0 0 1 2;wearer 0 0 1 1;wearer 0 0 1 0;";
        roundsAre(town, 6, 5, 0, 0);
        rowIs(town, 10, 5, 4, 3, 2, 1, 0);
        rowIs(town, 20, 0, 1, 2, 3, 4, 5);
        String row = "miles 1;tailor 9 0;wearer 0 0 1 0;wearer 1 0 1 0;wearer 2 0 1 0;wearer 3 0 1 0;wearer 4 0 1 0;"
            + "wearer 5 0 1 0;";
        rowIs(row, 20, 5, 4, 3, 2, 1, 0);
        Due.is("SOON", of(row).rounds(0, 1), 14);
    }

    static void p16_theFirstOfSeveralSoonest() {
        rowIs(SIX, 20, 0, 1, 2, 3, 4, 5);
        rowIs("miles 1;wearer 2 0 1 0;wearer 1 0 1 0;", 20, 1, 0);
        rowIs("miles 1;wearer 1 0 1 0;wearer 2 0 1 0;", 20, 0, 1);
        rowIs("miles 1;tailor 1 0;wearer 2 0 1 0;wearer 0 0 1 0;", 20, 0, 1);
    }

    static void p16_lateCountsNoDayBelowDue() {
        roundsAre("speed 1;wearer 0 0 1 99;wearer 0 0 1 99;", 2, 1, 0, 0);
        roundsAre("speed 1;wearer 0 0 3 1;wearer 0 0 1 99;", 1, 3, 1, 1);
    }

    static void p16_guildByDueOfLikeOnesByNumbers() {
        roundsAre("speed 1;wearer 0 0 2 0;wearer 0 0 1 0;", 1, 2, 2, 3);
        roundsAre("speed 1;wearer 0 0 2 1;wearer 0 0 1 0;", 1, 2, 1, 1);
        roundsAre("speed 1;wearer 0 0 9 1;wearer 0 0 1 2;", 1, 9, 8, 14);
    }

    static void p16_asLateAsCanBe() {
        String town = "speed 1;miles 1;" + Tape.times("wearer 0 0 30 0;", 6)
            + "away 0 0 99;away 1 0 99;away 2 0 99;away 3 0 99;away 4 0 99;away 5 0 99;";
        roundsAre(town, 0, 279, 1224, 1224);
        rowIs(town, 20, 0, 1, 2, 3, 4, 5);
        Due.is("the last one", of(town).done(0, round(5, 4, 3, 2, 1, 0), 6, 5), 279);
    }

    // Promise 26

    private static void homeIs(String town, int soon, int place) {
        SewnYear x = of(town);
        Due.is(town + " HOME", x.home(0, false), soon);
        Due.is(town + " place", x.home(0, true), place);
    }

    static void p26_noWearers() {
        homeIs("", NONE, NONE);
        homeIs("tailor 9 9;", NONE, NONE);
    }

    static void p26_noneSuch() {
        Due.is("none", new SewnYear().home(0, false), NONE);
        Due.is("none", new SewnYear().home(0, true), NONE);
        SewnYear x = of(ONE);
        for (int k : NO_TOWNS) {
            Due.is("town " + k, x.home(k, false), NONE);
            Due.is("place of " + k, x.home(k, true), NONE);
        }
    }

    static void p26_tenTimesYAndX() {
        for (int y = 0; y < 10; y++) {
            for (int x = 0; x < 10; x++) {
                homeIs("miles 9;wearer " + x + " " + y + " 1 0;", 0, 10 * y + x);
            }
        }
    }

    static void p26_theLeastPlaceOfSeveral() {
        homeIs("miles 1;" + ONE + "wearer 9 0 1 0;", 10, 0);
        homeIs("miles 9;wearer 9 9 1 0;away 0 0 0;", 1, 9);
        homeIs("miles 8;wearer 0 9 1 0;away 0 0 0;", 1, 10);
        homeIs("miles 1;wearer 9 9 1 0;away 0 0 99;", 100, 0);
    }

    static void p26_theTailorsPlaceIsNotLookedAt() {
        SewnYear x = of("tailor 9 9;miles 1;wearer 3 4 1 0;");
        Due.is("SOON of the TOWN", x.rounds(0, 1), 11);
        Due.is("HOME", x.home(0, false), 0);
        Due.is("place", x.home(0, true), 43);
        Due.is("the TAILOR stays", x.town(0, 3), 9);
        Due.is("SOON again", x.rounds(0, 1), 11);
    }

    static void p26_asLateAsCanBe() {
        homeIs("speed 1;miles 1;" + Tape.times("wearer 9 9 30 0;", 6)
            + "away 0 0 99;away 1 0 99;away 2 0 99;away 3 0 99;away 4 0 99;away 5 0 99;", 279, 0);
    }

    // Promise 27

    static void p27_toHimself() {
        SewnYear x = of("wearer 9 9 1 0;");
        Due.is("no way", x.way(0, 0, 0), 0);
    }

    static void p27_aDaysWayBegunIsADay() {
        for (int miles = 1; miles <= 9; miles++) {
            SewnYear x = of("miles " + miles + ";wearer 0 0 1 0;wearer " + miles + " 0 1 0;wearer " + miles
                + " 1 1 0;wearer 0 0 1 0;wearer 9 9 1 0;tailor 5 5;");
            Due.is("a day", x.way(0, 0, 1), 1);
            Due.is("back", x.way(0, 1, 0), 1);
            Due.is("more than a day", x.way(0, 0, 2), 2);
            Due.is("at one place", x.way(0, 0, 3), 0);
            Due.is("from edge to edge", x.way(0, 4, 0), (18 + miles - 1) / miles);
        }
    }

    static void p27_byRowsAndColumns() {
        SewnYear x = of("miles 1;wearer 0 9 1 0;wearer 9 0 1 0;");
        Due.is("way", x.way(0, 0, 1), 18);
        Due.is("back", x.way(0, 1, 0), 18);
    }

    static void p27_aWearerThatIsNotThere() {
        SewnYear x = of(ONE + ONE);
        Due.is("the last one", x.way(0, 1, 0), 0);
        for (int k : new int[] {-2, -1, 2, 5, 6, LOW, HIGH}) {
            Due.is("from " + k, x.way(0, k, 0), NONE);
            Due.is("to " + k, x.way(0, 0, k), NONE);
        }
        SewnYear six = of(SIX);
        Due.is("the sixth", six.way(0, 5, 0), 0);
        Due.is("a seventh", six.way(0, 6, 0), NONE);
        Due.is("without WEARERS", of("").way(0, 0, 0), NONE);
    }

    static void p27_noneSuch() {
        Due.is("none", new SewnYear().way(0, 0, 0), NONE);
        SewnYear x = of(ONE);
        for (int k : NO_TOWNS) {
            Due.is("town " + k, x.way(k, 0, 0), NONE);
        }
    }
}
