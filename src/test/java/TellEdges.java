/** What is told and kept: promises 1 to 3, 6, 7, 14, 18, 29 to 31. */
final class TellEdges {
    private static final int NONE = SewnYear.NONE;
    private static final int LOW = Integer.MIN_VALUE;
    private static final int HIGH = Integer.MAX_VALUE;
    private static final int DAY = 0x6461793b; // "day;"
    private static final int BLANK = 0x20202020;

    private TellEdges() {
    }

    private static void blanks(SewnYear x, int n) {
        for (int i = 0; i < n; i++) {
            x.feed(BLANK, BLANK, BLANK, BLANK, BLANK);
        }
    }

    // Promise 1

    static void p1_theConstantIsBelowAllNumbers() {
        Due.is("NONE", SewnYear.NONE, -1);
    }

    static void p1_noneOfAnySort() {
        SewnYear x = new SewnYear();
        for (int sort = 0; sort < 4; sort++) {
            Due.is("count " + sort, x.count(sort), 0);
        }
        Due.is("coat", x.coat(0, 0), NONE);
        Due.is("deeds", x.deed(0, NONE, 0), -2);
        Due.is("town", x.town(0, 0), -2);
        Due.is("facts", x.fact(0, NONE, 0), -2);
    }

    static void p1_noImages() {
        SewnYear x = new SewnYear();
        for (int k = 0; k < 3; k++) {
            Due.is("again " + k, x.again(k), false);
        }
    }

    static void p1_theTapeIsEmptyAndThereIsNoFault() {
        SewnYear x = new SewnYear();
        Due.is("end 1", x.end(1), NONE);
        Due.is("end 0", x.end(0), 0);
        Due.is("fault", x.fault(0), 0);
        Due.is("place", x.fault(1), NONE);
    }

    static void p1_objectsAreApart() {
        SewnYear x = Retold.some();
        SewnYear y = new SewnYear();
        Due.is("the other's coats", y.count(0), 0);
        Due.is("the other's tape", y.end(1), NONE);
        Tape.tell(y, 0, "pace 9;");
        Due.is("its coats", x.count(0), 2);
        Due.is("its pace", x.coat(0, 1), 2);
    }

    // Promise 2

    static void p2_howManyItHas() {
        SewnYear x = new SewnYear();
        Due.is("the first twenty", x.feed(0, 0, 0, 0, 0), 20);
        x.end(7);
        Due.is("behind seven", x.feed(LOW, HIGH, -1, 0, 1), 27);
    }

    static void p2_upTo600ByTwenties() {
        SewnYear x = new SewnYear();
        for (int n = 20; n <= 600; n += 20) {
            Due.is("feed", x.feed(BLANK, BLANK, BLANK, BLANK, BLANK), n);
        }
        Due.is("at 600", x.feed(BLANK, BLANK, BLANK, BLANK, BLANK), NONE);
        Due.is("it has 600", x.end(600), 600);
    }

    static void p2_from580ItIsTaken() {
        SewnYear x = new SewnYear();
        blanks(x, 30);
        x.end(580);
        Due.is("at 580", x.feed(0, 0, 0, 0, 0), 600);
    }

    static void p2_from581ItIsNot() {
        for (int n = 581; n <= 600; n++) {
            SewnYear x = new SewnYear();
            blanks(x, 30);
            x.end(n);
            Due.is("at " + n, x.feed(0, 0, 0, 0, 0), NONE);
            Due.is("none came", x.end(n + 1), NONE);
            Due.is("none went", x.end(n), n);
        }
    }

    static void p2_nothingComesIfItIsRefused() {
        SewnYear x = new SewnYear();
        x.feed(DAY, BLANK, BLANK, BLANK, BLANK);
        blanks(x, 29);
        x.end(590);
        Due.is("refused", x.feed(DAY, DAY, DAY, DAY, DAY), NONE);
        Due.is("text", x.text(1, NONE), 0);
        Due.is("one deed", x.deed(0, NONE, 0), 1);
    }

    static void p2_theHighestByteFirstOfEachInTurn() {
        SewnYear x = new SewnYear();
        // "sew 1;tear 2;grow 34" without a blank to spare, then the rest of its line.
        x.feed(0x73657720, 0x313b7465, 0x61722032, 0x3b67726f, 0x77203334);
        Due.is("34 can't be", x.text(1, NONE), NONE);
        Due.is("for want of ;", x.fault(0), 1);
        Due.is("at the end", x.fault(1), 20);
        x.feed(0x73657720, 0x313b7465, 0x61722032, 0x3b67726f, 0x77203334);
        x.feed(0x3b202020, BLANK, BLANK, BLANK, BLANK);
        Due.is("34 can't be", x.text(1, NONE), NONE);
        Due.is("a number", x.fault(0), 2);
        Due.is("at", x.fault(1), 18);
        x.feed(0x73657720, 0x313b7465, 0x61722032, 0x3b67726f, 0x7720333b);
        Due.is("text", x.text(1, NONE), 0);
        Due.is("deeds", Retold.life(x, 0), " 0:1 2:2 3:3");
    }

    static void p2_bytesAbove127() {
        int[][] bytes = {{-1, 0}, {0x20ffffff, 1}, {0x2020ff80, 2}, {0x20202080, 3}, {LOW, 0}};
        for (int[] b : bytes) {
            SewnYear x = new SewnYear();
            x.feed(b[0], BLANK, BLANK, BLANK, BLANK);
            Due.is("text", x.text(1, NONE), NONE);
            Due.is("fault", x.fault(0), 1);
            Due.is("place", x.fault(1), b[1]);
        }
    }

    // Promise 3

    static void p3_upToWhatItHas() {
        SewnYear x = new SewnYear();
        blanks(x, 2);
        Due.is("end 41", x.end(41), NONE);
        Due.is("end 40", x.end(40), 40);
        Due.is("end 39", x.end(39), 39);
        Due.is("end 40", x.end(40), NONE);
        Due.is("end 0", x.end(0), 0);
        Due.is("end 1", x.end(1), NONE);
        Due.is("end 0", x.end(0), 0);
    }

    static void p3_upTo600() {
        SewnYear x = new SewnYear();
        blanks(x, 30);
        Due.is("end 601", x.end(601), NONE);
        Due.is("end 600", x.end(600), 600);
        Due.is("end HIGH", x.end(HIGH), NONE);
    }

    static void p3_belowZero() {
        SewnYear x = new SewnYear();
        blanks(x, 1);
        Due.is("end -1", x.end(-1), NONE);
        Due.is("end LOW", x.end(LOW), NONE);
        Due.is("left as it was", x.end(20), 20);
    }

    static void p3_aRefusedEndLeavesTheTape() {
        SewnYear x = new SewnYear();
        x.feed(DAY, DAY, DAY, DAY, DAY);
        x.end(21);
        x.end(-1);
        Due.is("text", x.text(1, NONE), 0);
        Due.is("deeds", x.deed(0, NONE, 0), 5);
    }

    static void p3_theFirstBytesAlone() {
        SewnYear x = new SewnYear();
        x.feed(DAY, DAY, -1, -1, -1);
        Due.is("cut", x.end(8), 8);
        Due.is("on behind", x.feed(DAY, BLANK, BLANK, BLANK, BLANK), 28);
        Due.is("text", x.text(1, NONE), 0);
        Due.is("deeds", x.deed(0, NONE, 0), 3);
    }

    static void p3_whatWasCutIsGone() {
        SewnYear x = new SewnYear();
        x.feed(DAY, DAY, DAY, DAY, DAY);
        x.end(4);
        Due.is("text", x.text(1, NONE), 0);
        Due.is("deeds", x.deed(0, NONE, 0), 1);
        x.feed(DAY, DAY, DAY, DAY, DAY);
        x.end(0);
        Due.is("text", x.text(1, 0), 0);
        Due.is("deeds", x.deed(0, NONE, 0), 0);
    }

    /** Each text is fed whole and cut ahead of its last byte: no token goes on behind the end. */
    static void p3_noTokenGoesOnBehindTheEnd() {
        String[] texts = {"day", "grow 1", "grow 12", "grow 123", "grow 1;", "day;d", "day;1"};
        int[] faults = {1, 1, 1, 1, 1, 0, 0};
        int[] places = {0, 5, 6, 7, 6, NONE, NONE};
        for (int i = 0; i < texts.length; i++) {
            SewnYear x = new SewnYear();
            Tape.put(x, texts[i]);
            x.end(texts[i].length() - 1);
            x.text(1, NONE);
            Due.is(texts[i] + " cut, FAULT", x.fault(0), faults[i]);
            Due.is(texts[i] + " cut, place", x.fault(1), places[i]);
        }
    }

    // Promise 6

    private static final String NINE = "seam 1 0 9;seam 2 1 8;seam 3 2 7;seam 4 3 6;seam 5 0 5;seam 6 1 4;seam 7 2 3;"
        + "seam 8 3 2;seam 9 0 1;after 8 7;after 8 0;after 0 7;pace 9;grows 0 1;grows 99 9;";

    private static int ofNine(int what) {
        int s = what % 10;
        boolean seam = what >= 10 && what < 50 && s < 9;
        switch (seam ? what / 10 : what) {
            case 0: return 9;
            case 1: return seam ? s + 1 : 9;
            case 2: return seam ? s % 4 : NONE;
            case 3: return seam ? 9 - s : NONE;
            case 4: return !seam ? NONE : s == 8 ? 129 : s == 0 ? 128 : 0;
            case 100: return 1;
            case 199: return 9;
            default: return what > 100 && what < 199 ? 0 : NONE;
        }
    }

    static void p6_eachWhatOfNineSeamsAndNoOther() {
        SewnYear x = new SewnYear();
        Tape.tell(x, 0, NINE);
        for (int what = -60; what < 320; what++) {
            Due.is("coat " + what, x.coat(0, what), ofNine(what));
        }
        Due.is("coat LOW", x.coat(0, LOW), NONE);
        Due.is("coat HIGH", x.coat(0, HIGH), NONE);
    }

    static void p6_aSeamThatIsNotThere() {
        SewnYear x = new SewnYear();
        Tape.tell(x, 0, "seam 4 3 2;");
        for (int ten = 10; ten <= 40; ten += 10) {
            Due.is("the last " + ten, x.coat(0, ten) >= 0, true);
            Due.is("the next " + ten, x.coat(0, ten + 1), NONE);
            Due.is("the ninth " + ten, x.coat(0, ten + 8), NONE);
        }
    }

    static void p6_atFirst() {
        SewnYear x = new SewnYear();
        x.text(0, NONE);
        Due.is("SEAMS", x.coat(0, 0), 0);
        Due.is("PACE", x.coat(0, 1), 1);
        Due.is("STITCHES", x.coat(0, 10), NONE);
        Due.is("GROWTH of day 0", x.coat(0, 100), 0);
        Due.is("GROWTH of day 99", x.coat(0, 199), 0);
        Tape.tell(x, 0, "seam 1 0 0;");
        Due.is("AFTER", x.coat(1, 40), 0);
    }

    static void p6_laterOnesStrikeButAfterIsAFurtherOne() {
        SewnYear x = new SewnYear();
        Tape.tell(x, 0, "pace 9;grows 5 9;pace 1;grows 5 0;seam 1 1 1;seam 2 2 2;seam 3 3 3;after 2 0;after 2 1;after 2 0;");
        Due.is("PACE", x.coat(0, 1), 1);
        Due.is("GROWTH", x.coat(0, 105), 0);
        Due.is("SEAMS", x.coat(0, 0), 3);
        Due.is("the first SEAM", x.coat(0, 10), 1);
        Due.is("AFTER", x.coat(0, 42), 3);
    }

    static void p6_noSuchCoat() {
        SewnYear x = new SewnYear();
        Due.is("of none", x.coat(0, 0), NONE);
        x.text(0, NONE);
        Due.is("the only one", x.coat(0, 0), 0);
        for (int k : new int[] {-1, 1, 2, LOW, HIGH}) {
            Due.is("coat " + k, x.coat(k, 0), NONE);
        }
        x.text(0, NONE);
        Due.is("the second", x.coat(1, 0), 0);
        Due.is("a third", x.coat(2, 0), NONE);
    }

    // Promise 7

    static void p7_noDeeds() {
        SewnYear x = new SewnYear();
        x.text(1, NONE);
        Due.is("how many", x.deed(0, NONE, 0), 0);
        Due.is("deed 0", x.deed(0, 0, 0), -2);
    }

    static void p7_fortyDeeds() {
        SewnYear x = new SewnYear();
        Tape.tell(x, 1, Tape.times("sew 7;", 39) + "tear 8;");
        Due.is("how many", x.deed(0, NONE, 0), 40);
        Due.is("deed 0", x.deed(0, 0, 1), 7);
        Due.is("deed 39", x.deed(0, 39, 0), 2);
        Due.is("its number", x.deed(0, 39, 1), 8);
        Due.is("deed 40", x.deed(0, 40, 0), -2);
        for (int k : new int[] {-2, -3, 41, LOW, HIGH}) {
            Due.is("deed " + k, x.deed(0, k, 0), -2);
            Due.is("number " + k, x.deed(0, k, 1), -2);
        }
    }

    static void p7_eachKindAndNumber() {
        SewnYear x = new SewnYear();
        Tape.tell(x, 1, "sew 0;unpick 8;tear 0;grow 1;shrink 9;day;");
        Due.is("deeds", Retold.life(x, 0), " 0:0 1:8 2:0 3:1 4:9 5:-1");
    }

    static void p7_anotherWhat() {
        SewnYear x = new SewnYear();
        Tape.tell(x, 1, "sew 0;");
        for (int what : new int[] {-1, -2, 2, 3, LOW, HIGH}) {
            Due.is("of a deed " + what, x.deed(0, 0, what), -2);
        }
        for (int what : new int[] {-1, 1, 2, LOW, HIGH}) {
            Due.is("of how many " + what, x.deed(0, NONE, what), -2);
        }
    }

    static void p7_noSuchLife() {
        SewnYear x = new SewnYear();
        Due.is("of none", x.deed(0, NONE, 0), -2);
        x.text(1, NONE);
        for (int k : new int[] {-1, 1, 2, LOW, HIGH}) {
            Due.is("life " + k, x.deed(k, NONE, 0), -2);
        }
        x.text(1, NONE);
        Due.is("the second", x.deed(1, NONE, 0), 0);
        Due.is("a third", x.deed(2, NONE, 0), -2);
    }

    // Promise 14

    private static final String SIX = "wearer 0 9 1 99;wearer 1 8 2 98;wearer 2 7 3 97;wearer 3 6 4 96;wearer 4 5 5 95;"
        + "wearer 9 0 30 0;away 0 0 99;away 5 99 99;tailor 9 8;speed 9;miles 9;";

    private static int ofSix(int what) {
        int[][] rows = {{0, 1, 2, 3, 4, 9}, {9, 8, 7, 6, 5, 0}, {1, 2, 3, 4, 5, 30}, {99, 98, 97, 96, 95, 0},
            {0, NONE, NONE, NONE, NONE, 99}, {99, NONE, NONE, NONE, NONE, 99}};
        int[] first = {6, 9, 9, 9, 8};
        if (what >= 0 && what < 5) {
            return first[what];
        }
        return what >= 10 && what < 70 && what % 10 < 6 ? rows[what / 10 - 1][what % 10] : -2;
    }

    static void p14_eachWhatOfSixWearersAndNoOther() {
        SewnYear x = new SewnYear();
        Tape.tell(x, 2, SIX);
        for (int what = -80; what < 220; what++) {
            Due.is("town " + what, x.town(0, what), ofSix(what));
        }
        Due.is("town LOW", x.town(0, LOW), -2);
        Due.is("town HIGH", x.town(0, HIGH), -2);
    }

    static void p14_aWearerThatIsNotThere() {
        SewnYear x = new SewnYear();
        Tape.tell(x, 2, "wearer 1 2 3 4;");
        for (int ten = 10; ten <= 60; ten += 10) {
            Due.is("the last " + ten, x.town(0, ten) != -2, true);
            Due.is("the next " + ten, x.town(0, ten + 1), -2);
        }
    }

    static void p14_atFirst() {
        SewnYear x = new SewnYear();
        x.text(2, NONE);
        Due.is("town", Retold.town(x, 0), " 0 3 2 0 0");
        Tape.tell(x, 2, "wearer 0 0 1 0;");
        Due.is("not AWAY from", x.town(1, 50), NONE);
        Due.is("not AWAY up to", x.town(1, 60), NONE);
    }

    static void p14_laterOnesStrikeButWearersAreFurtherOnes() {
        SewnYear x = new SewnYear();
        Tape.tell(x, 2, "speed 9;speed 1;miles 9;miles 1;tailor 9 9;tailor 0 1;away 0 2 8;away 0 5 5;"
            + "wearer 1 1 1 1;wearer 1 1 1 1;");
        Due.is("town", Retold.town(x, 0), " 2 1 1 0 1 (1 1 1 1 5 5) (1 1 1 1 -1 -1)");
    }

    static void p14_noSuchTown() {
        SewnYear x = new SewnYear();
        Due.is("of none", x.town(0, 0), -2);
        x.text(2, NONE);
        for (int k : new int[] {-1, 1, 2, LOW, HIGH}) {
            Due.is("town " + k, x.town(k, 0), -2);
        }
        x.text(2, NONE);
        Due.is("the second", x.town(1, 0), 0);
        Due.is("a third", x.town(2, 0), -2);
    }

    // Promise 18

    static void p18_noFacts() {
        SewnYear x = new SewnYear();
        x.text(3, NONE);
        Due.is("how many", x.fact(0, NONE, 0), 0);
        Due.is("fact 0", x.fact(0, 0, 0), -2);
    }

    static void p18_tenFacts() {
        SewnYear x = new SewnYear();
        Tape.tell(x, 3, "before 0 8;" + Tape.times("at 8 0;", 8) + "not 0 8;");
        Due.is("facts", Retold.sight(x, 0), " 0:0:8" + Tape.times(" 1:8:0", 8) + " 2:0:8");
        Due.is("how many", x.fact(0, NONE, 0), 10);
        Due.is("fact 9", x.fact(0, 9, 0), 2);
        for (int k : new int[] {-3, -2, 10, 11, LOW, HIGH}) {
            Due.is("fact " + k, x.fact(0, k, 0), -2);
        }
    }

    static void p18_anotherWhat() {
        SewnYear x = new SewnYear();
        Tape.tell(x, 3, "at 0 0;");
        for (int what : new int[] {-2, -1, 3, 4, LOW, HIGH}) {
            Due.is("of a fact " + what, x.fact(0, 0, what), -2);
        }
        for (int what : new int[] {-1, 1, 2, 3, LOW, HIGH}) {
            Due.is("of how many " + what, x.fact(0, NONE, what), -2);
        }
    }

    static void p18_noSuchSight() {
        SewnYear x = new SewnYear();
        Due.is("of none", x.fact(0, NONE, 0), -2);
        x.text(3, NONE);
        for (int k : new int[] {-1, 1, 2, LOW, HIGH}) {
            Due.is("sight " + k, x.fact(k, NONE, 0), -2);
        }
        x.text(3, NONE);
        Due.is("the second", x.fact(1, NONE, 0), 0);
        Due.is("a third", x.fact(2, NONE, 0), -2);
    }

    // Promise 29

    static void p29_fromNoneToTwo() {
        for (int sort = 0; sort < 4; sort++) {
            SewnYear x = new SewnYear();
            for (int n = 0; n < 3; n++) {
                for (int other = 0; other < 4; other++) {
                    Due.is("count " + other, x.count(other), other == sort ? n : 0);
                }
                x.text(sort, NONE);
            }
            Due.is("no third", x.count(sort), 2);
        }
    }

    static void p29_anotherSort() {
        SewnYear x = Retold.some();
        for (int sort : new int[] {-2, -1, 4, 5, LOW, HIGH}) {
            Due.is("count " + sort, x.count(sort), -2);
        }
    }

    // Promise 30

    static void p30_threeImages() {
        SewnYear x = new SewnYear();
        for (int k = 0; k < 3; k++) {
            x.end(0);
            Tape.tell(x, 1, k == 0 ? NONE : 0, Tape.times("day;", k));
            Due.is("image " + k, x.image(k), true);
        }
        for (int k = 0; k < 3; k++) {
            Due.is("again " + k, x.again(k), true);
            Due.is("deeds of " + k, x.deed(0, NONE, 0), k);
        }
    }

    static void p30_anotherImage() {
        SewnYear x = Retold.some();
        String told = Retold.of(x);
        for (int k : new int[] {-1, 3, 4, LOW, HIGH}) {
            Due.is("image " + k, x.image(k), false);
        }
        Due.is("all is as it was", Retold.of(x), told);
        for (int k = 0; k < 3; k++) {
            Due.is("none was made", x.again(k), false);
        }
    }

    static void p30_ofNothing() {
        SewnYear x = new SewnYear();
        Due.is("image", x.image(1), true);
        Tape.tell(x, 0, "pace 0;");
        Tape.tell(x, 0, "pace 9;");
        Tape.put(x, "day;");
        Due.is("again", x.again(1), true);
        Due.is("no coat", x.count(0), 0);
        Due.is("no fault", x.fault(0), 0);
        Due.is("no tape", x.end(1), NONE);
    }

    static void p30_ofFullCoatsAndAFullTape() {
        SewnYear x = new SewnYear();
        Tape.tell(x, 0, NINE);
        Tape.tell(x, 0, NINE);
        blanks(x, 30);
        x.image(2);
        String told = Retold.of(x);
        Tape.tell(x, 0, 0, "");
        Tape.tell(x, 0, 1, "");
        x.again(2);
        Due.is("all is as it was", Retold.of(x), told);
        Due.is("the tape too", x.end(600), 600);
    }

    static void p30_ofFullTownsAndSights() {
        SewnYear x = new SewnYear();
        for (int k = 0; k < 2; k++) {
            Tape.tell(x, 2, SIX);
            Tape.tell(x, 3, Tape.times("before 8 7;", 10));
        }
        x.image(2);
        for (int k = 0; k < 2; k++) {
            Tape.tell(x, 2, k, "");
            Tape.tell(x, 3, k, "");
        }
        x.again(2);
        for (int k = 0; k < 2; k++) {
            Due.is("town " + k, Retold.town(x, k), " 6 9 9 9 8 (0 9 1 99 0 99) (1 8 2 98 -1 -1) (2 7 3 97 -1 -1)"
                + " (3 6 4 96 -1 -1) (4 5 5 95 -1 -1) (9 0 30 0 99 99)");
            Due.is("sight " + k, Retold.sight(x, k), Tape.times(" 0:8:7", 10));
        }
    }

    static void p30_ofFullLives() {
        SewnYear x = new SewnYear();
        Tape.tell(x, 1, Tape.times("grow 9;", 40));
        Tape.tell(x, 1, Tape.times("unpick 8;", 40));
        x.image(0);
        x.text(1, 0);
        x.text(1, 1);
        x.again(0);
        Due.is("the first", Retold.life(x, 0), Tape.times(" 3:9", 40));
        Due.is("the second", Retold.life(x, 1), Tape.times(" 1:8", 40));
    }

    static void p30_theTapeAndTheFault() {
        SewnYear x = new SewnYear();
        Tape.tell(x, 0, "pace 1;pace 0;");
        Tape.put(x, "day;sew 3;");
        x.image(0);
        Due.is("another text", x.text(1, NONE), 0);
        x.feed(-1, -1, -1, -1, -1);
        x.again(0);
        Due.is("fault", x.fault(0), 2);
        Due.is("place", x.fault(1), 12);
        Due.is("no further byte", x.end(11), NONE);
        Due.is("the tape's", x.text(1, NONE), 0);
        Due.is("deeds", Retold.life(x, 0), " 5:-1 0:3");
    }

    static void p30_takenAnewItIsAsNow() {
        SewnYear x = new SewnYear();
        Tape.tell(x, 0, "seam 9 3 9;grows 5 5;");
        x.image(0);
        Tape.tell(x, 0, 0, "pace 2;");
        Due.is("anew", x.image(0), true);
        Tape.tell(x, 0, 0, "pace 3;");
        x.again(0);
        Due.is("as it was then", x.coat(0, 1), 2);
        Due.is("nothing older", x.coat(0, 0), 0);
    }

    static void p30_whatIsToldLaterIsNotInIt() {
        SewnYear x = Retold.some();
        x.image(0);
        String told = Retold.of(x);
        Tape.tell(x, 0, 0, "pace 9;");
        Tape.tell(x, 1, 0, "");
        Tape.tell(x, 2, 0, "");
        Tape.tell(x, 3, 0, "");
        Tape.tell(x, 3, "");
        x.again(0);
        Due.is("as it was", Retold.of(x), told);
        Due.is("one sight", x.count(3), 1);
    }

    // Promise 31

    static void p31_noneSuchChangesNothing() {
        SewnYear x = Retold.some();
        Tape.tell(x, 0, "q");
        Tape.put(x, "day;");
        x.image(1);
        String told = Retold.of(x);
        for (int k : new int[] {0, 2, -1, 3, LOW, HIGH}) {
            Due.is("again " + k, x.again(k), false);
        }
        Due.is("all is as it was", Retold.of(x), told);
        Due.is("the tape too", x.end(5), NONE);
        Due.is("the tape too", x.end(4), 4);
    }

    static void p31_againAndAgain() {
        SewnYear x = Retold.some();
        x.image(0);
        String told = Retold.of(x);
        for (int i = 0; i < 3; i++) {
            Tape.tell(x, 1, 0, "day;");
            Due.is("again", x.again(0), true);
            Due.is("as it was", Retold.of(x), told);
        }
    }

    static void p31_imagesStayWhenOneIsTaken() {
        SewnYear x = new SewnYear();
        x.image(0);
        Tape.tell(x, 0, "pace 2;");
        x.image(1);
        Due.is("to the older", x.again(0), true);
        Due.is("nothing told", x.count(0), 0);
        Due.is("to the newer", x.again(1), true);
        Due.is("told", x.coat(0, 1), 2);
    }

    static void p31_fewerThanThereAreNow() {
        SewnYear x = new SewnYear();
        Tape.tell(x, 0, "");
        x.image(2);
        Tape.tell(x, 0, "pace 5;");
        x.again(2);
        Due.is("coats", x.count(0), 1);
        Due.is("the second is gone", x.coat(1, 1), NONE);
        Due.is("there is room for it again", Tape.tell(x, 0, ""), 1);
        Due.is("nothing of the gone one", x.coat(1, 1), 1);
    }
}
