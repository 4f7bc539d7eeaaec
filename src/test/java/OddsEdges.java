/** Cloth bought by odds, and what was seen of the ORDER: promises 17, 19, 20 and 28. */
final class OddsEdges {
    private static final int NONE = SewnYear.NONE;
    private static final int LOW = Integer.MIN_VALUE;
    private static final int HIGH = Integer.MAX_VALUE;

    private static final String ONE = "seam 1 0 0;";
    private static final String RING = ONE + ONE + "after 0 1;after 1 0;";

    private OddsEdges() {
    }

    // Promise 17

    private static void clothIs(int n, int p, int c, int d, long best, long up, long down) {
        SewnYear x = new SewnYear();
        long[] due = {best, up, down};
        for (int what = 0; what < 3; what++) {
            Due.is(n + " " + p + " " + c + " " + d + " what " + what, x.cloth(n, p, c, d, what), due[what]);
        }
    }

    private static void noCloth(int n, int p, int c, int d) {
        clothIs(n, p, c, d, NONE, NONE, NONE);
    }

    static void p17_monthsFromOneToTwelve() {
        clothIs(1, 10, 1, 2, 1, 1, 1);
        clothIs(12, 10, 1, 2, 12, 12, 1);
        for (int n : new int[] {-1, 0, 13, 14, LOW, HIGH}) {
            noCloth(n, 10, 1, 2);
        }
    }

    static void p17_oddsFromNoneToTenOfTen() {
        clothIs(3, 0, 1, 2, 0, 0, 1);
        clothIs(3, 10, 1, 2, 3, 3, 1);
        for (int p : new int[] {-2, -1, 11, 12, LOW, HIGH}) {
            noCloth(3, p, 1, 2);
        }
    }

    static void p17_costsFromNoneToNinetyNine() {
        clothIs(1, 10, 0, 1, 1, 0, 1);
        clothIs(1, 10, 98, 99, 1, 98, 1);
        clothIs(1, 10, 99, 98, 0, 98, 1);
        clothIs(1, 10, 1, 0, 0, 0, 1);
        for (int cost : new int[] {-2, -1, 100, 101, LOW, HIGH}) {
            noCloth(1, 10, cost, 1);
            noCloth(1, 10, 1, cost);
        }
    }

    static void p17_anotherWhat() {
        SewnYear x = new SewnYear();
        for (int what : new int[] {-2, -1, 3, 4, LOW, HIGH}) {
            Due.is("what " + what, x.cloth(1, 5, 1, 1, what), NONE);
        }
    }

    static void p17_bestFromNoneToN() {
        clothIs(12, 10, 98, 99, 12, 1176, 1);
        clothIs(12, 10, 99, 98, 0, 1176, 1);
        clothIs(2, 5, 2, 3, 1, 11, 4);
    }

    static void p17_theLeastOfSeveral() {
        clothIs(12, 5, 0, 0, 0, 0, 1);
        clothIs(12, 0, 0, 99, 0, 0, 1);
        clothIs(12, 10, 99, 99, 0, 1188, 1);
        clothIs(1, 5, 1, 2, 0, 1, 1);
        clothIs(1, 5, 1, 3, 1, 1, 1);
        clothIs(12, 5, 0, 1, 12, 0, 1);
    }

    static void p17_inLeastTerms() {
        clothIs(1, 5, 99, 1, 0, 1, 2);
        clothIs(1, 1, 99, 1, 0, 1, 10);
        clothIs(12, 1, 99, 1, 0, 6, 5);
        clothIs(12, 9, 99, 99, 0, 5346, 5);
    }

    /** 10 for one yard, 21 times the mean of what lacks then: 1.2 - 1 and 0.9 to the power of 12. */
    static void p17_partsOfAMillionMillion() {
        clothIs(12, 1, 10, 21, 1, 20131020266101L, 1000000000000L);
        clothIs(12, 1, 1, 2, 1, 982429536481L, 500000000000L);
    }

    // Promise 28

    private static void enoughIs(int n, int p, int x, long up, long down) {
        SewnYear s = new SewnYear();
        Due.is("ENOUGH of " + n + " " + p + " " + x + " N", s.enough(n, p, x, false), up);
        Due.is("ENOUGH of " + n + " " + p + " " + x + " D", s.enough(n, p, x, true), down);
    }

    static void p28_monthsFromOneToTwelve() {
        enoughIs(1, 5, 0, 1, 2);
        enoughIs(12, 5, 11, 4095, 4096);
        for (int n : new int[] {-1, 0, 13, 14, LOW, HIGH}) {
            enoughIs(n, 5, 0, NONE, NONE);
        }
    }

    static void p28_oddsFromNoneToTenOfTen() {
        enoughIs(12, 0, 0, 1, 1);
        enoughIs(12, 10, 11, 0, 1);
        enoughIs(12, 10, 12, 1, 1);
        for (int p : new int[] {-2, -1, 11, 12, LOW, HIGH}) {
            enoughIs(12, p, 0, NONE, NONE);
        }
    }

    static void p28_yardsFromNoneToTwelve() {
        enoughIs(12, 5, 0, 1, 4096);
        enoughIs(12, 5, 12, 1, 1);
        for (int x : new int[] {-2, -1, 13, 14, LOW, HIGH}) {
            enoughIs(12, 5, x, NONE, NONE);
            enoughIs(1, 5, x, NONE, NONE);
        }
    }

    static void p28_moreYardsThanMonths() {
        for (int x = 1; x <= 12; x++) {
            enoughIs(1, 5, x, 1, 1);
        }
        enoughIs(11, 5, 12, 1, 1);
        enoughIs(11, 5, 10, 2047, 2048);
    }

    static void p28_partsOfAMillionMillion() {
        enoughIs(12, 1, 0, 282429536481L, 1000000000000L);
        enoughIs(12, 9, 0, 1, 1000000000000L);
        enoughIs(12, 1, 11, 999999999999L, 1000000000000L);
    }

    // Promise 19

    private static SewnYear of(String coat, String sight) {
        SewnYear x = new SewnYear();
        Due.is(coat, Tape.tell(x, 0, coat), 0);
        Due.is(sight, Tape.tell(x, 3, sight), 0);
        return x;
    }

    private static void fitsIs(String coat, String sight, int seam, int place, long due) {
        Due.is(coat + " " + sight + " FITS " + seam + " " + place, of(coat, sight).fits(0, 0, seam, place), due);
    }

    static void p19_allOrdersFitNothingSeen() {
        fitsIs(Tape.times(ONE, 9), "", NONE, NONE, 362880);
        fitsIs(Tape.times(ONE, 9), "", 0, 0, 40320);
        fitsIs(Tape.times(ONE, 9), "", 8, 8, 40320);
        fitsIs(ONE, "", NONE, NONE, 1);
        fitsIs(ONE, "", 0, 0, 1);
    }

    static void p19_withoutSeams() {
        fitsIs("", "", NONE, NONE, 1);
        fitsIs("", "", 0, 0, NONE);
        fitsIs("", "at 0 0;", NONE, NONE, NONE);
    }

    static void p19_withoutAnOrder() {
        fitsIs(RING, "", NONE, NONE, 0);
        fitsIs(RING, "", 0, 0, 0);
    }

    static void p19_thePlaceIsNotLookedAtWithoutASeam() {
        for (int place : new int[] {-2, -1, 0, 2, 9, LOW, HIGH}) {
            fitsIs(ONE + ONE, "", NONE, place, 2);
        }
    }

    static void p19_aSeamThatIsNotThere() {
        fitsIs(ONE + ONE, "", 1, 0, 1);
        for (int seam : new int[] {-3, -2, 2, 3, 8, 9, LOW, HIGH}) {
            fitsIs(ONE + ONE, "", seam, 0, NONE);
        }
        fitsIs(Tape.times(ONE, 9), "", 9, 0, NONE);
    }

    static void p19_aPlaceThatIsNotThere() {
        fitsIs(ONE + ONE, "", 0, 1, 1);
        for (int place : new int[] {-2, -1, 2, 3, 8, 9, LOW, HIGH}) {
            fitsIs(ONE + ONE, "", 0, place, NONE);
        }
        fitsIs(Tape.times(ONE, 9), "", 0, 9, NONE);
    }

    static void p19_aSeamToldOfIsNotThere() {
        String[] none = {"at 2 0;", "not 2 0;", "before 2 0;", "before 0 2;", "at 8 0;", "before 0 8;", "before 8 0;",
            "before 0 1;not 2 0;"};
        for (String sight : none) {
            fitsIs(ONE + ONE, sight, NONE, NONE, NONE);
            fitsIs(ONE + ONE, sight, 0, 0, NONE);
        }
        fitsIs(ONE + ONE, "at 1 0;", NONE, NONE, 1);
        fitsIs(ONE + ONE, "not 1 0;", NONE, NONE, 1);
        fitsIs(ONE + ONE, "before 1 0;", NONE, NONE, 1);
        fitsIs(ONE + ONE, "before 0 1;", NONE, NONE, 1);
        fitsIs(Tape.times(ONE, 9), "before 8 0;", NONE, NONE, 181440);
        fitsIs(Tape.times(ONE, 8), "before 8 0;", NONE, NONE, NONE);
    }

    static void p19_aPlaceSeenThatIsNotThere() {
        fitsIs(ONE + ONE, "at 0 1;", NONE, NONE, 1);
        fitsIs(ONE + ONE, "at 0 2;", NONE, NONE, 0);
        fitsIs(ONE + ONE, "at 0 8;", NONE, NONE, 0);
        fitsIs(ONE + ONE, "not 0 2;", NONE, NONE, 2);
        fitsIs(ONE + ONE, "not 0 8;", NONE, NONE, 2);
        fitsIs(Tape.times(ONE, 9), "at 0 8;", NONE, NONE, 40320);
        fitsIs(Tape.times(ONE, 9), "not 0 8;", NONE, NONE, 322560);
    }

    static void p19_factsThatGoNotTogether() {
        String[] none = {"before 0 1;before 1 0;", "at 0 0;at 1 0;", "at 0 0;not 0 0;", "at 0 0;at 0 1;",
            "not 0 0;not 0 1;", "at 0 0;before 1 0;"};
        for (String sight : none) {
            fitsIs(ONE + ONE, sight, NONE, NONE, 0);
            fitsIs(ONE + ONE, sight, 0, 0, 0);
        }
        fitsIs(ONE + ONE + "after 1 0;", "before 1 0;", NONE, NONE, 0);
    }

    static void p19_tenFactsAllOfThem() {
        fitsIs(Tape.times(ONE, 9), Tape.times("before 0 1;", 9) + "at 8 8;", NONE, NONE, 20160);
        fitsIs(Tape.times(ONE, 9), "at 8 8;" + Tape.times("before 0 1;", 9), NONE, NONE, 20160);
    }

    static void p19_noneSuchOfEither() {
        SewnYear x = of(ONE, "");
        Due.is("both", x.fits(0, 0, NONE, NONE), 1);
        for (int k : new int[] {-1, 1, 2, LOW, HIGH}) {
            Due.is("coat " + k, x.fits(k, 0, NONE, NONE), NONE);
            Due.is("sight " + k, x.fits(0, k, NONE, NONE), NONE);
        }
        Due.is("none", new SewnYear().fits(0, 0, NONE, NONE), NONE);
    }

    static void p19_aFactIsNotToldOfTheCoat() {
        SewnYear x = of(ONE + ONE, "before 1 0;");
        Due.is("FITS", x.fits(0, 0, NONE, NONE), 1);
        Due.is("ORDERS", x.orders(0), 2);
        Due.is("HOLDS", x.fits(0, 0, 0, 1), 1);
        Due.is("FITS again", x.fits(0, 0, NONE, NONE), 1);
    }

    // Promise 20

    private static void sureIs(String coat, String sight, int place, int due) {
        Due.is(coat + " " + sight + " SURE " + place, of(coat, sight).sure(0, 0, place), due);
    }

    static void p20_aPlaceThatIsNotThere() {
        sureIs(ONE, "", 0, 0);
        for (int place : new int[] {-3, -2, 1, 2, 9, LOW, HIGH}) {
            sureIs(ONE, "", place, NONE);
        }
        sureIs(Tape.times(ONE, 9), "at 3 8;", 8, 3);
        sureIs(Tape.times(ONE, 9), "at 3 8;", 9, NONE);
        sureIs("", "", 0, NONE);
    }

    static void p20_thereInAll() {
        sureIs(ONE + ONE, "", 0, NONE);
        sureIs(ONE + ONE, "", 1, NONE);
        sureIs(ONE + ONE, "not 0 0;", 0, 1);
        sureIs(ONE + ONE, "not 0 0;", 1, 0);
        sureIs(Tape.times(ONE, 9), "at 8 0;", 0, 8);
        sureIs(Tape.times(ONE, 9), "at 8 0;", 1, NONE);
    }

    static void p20_nothingFits() {
        sureIs(ONE + ONE, "at 0 2;", 0, NONE);
        sureIs(ONE + ONE, "at 0 2;", NONE, NONE);
        sureIs(RING, "", 0, NONE);
        sureIs(RING, "", NONE, NONE);
        sureIs(ONE + ONE, "before 0 1;before 1 0;", NONE, NONE);
    }

    static void p20_aSeamToldOfIsNotThere() {
        for (String sight : new String[] {"at 2 0;", "not 2 0;", "before 2 0;", "before 0 2;"}) {
            sureIs(ONE + ONE, sight, 0, NONE);
            sureIs(ONE + ONE, sight, NONE, NONE);
        }
    }

    static void p20_fewerThanTwoSeams() {
        sureIs("", "", NONE, NONE);
        sureIs(ONE, "", NONE, NONE);
        sureIs(ONE + ONE, "", NONE, 1);
    }

    static void p20_askFromTheFirstCoupleToTheLast() {
        sureIs(Tape.times(ONE, 9), "", NONE, 1);
        // All but 7 and 8 stand in one ORDER.
        sureIs(Tape.times(ONE, 9) + "after 1 0;after 2 1;after 3 2;after 4 3;after 5 4;after 6 5;after 7 6;after 8 6;", "",
            NONE, 71);
        sureIs(Tape.times(ONE, 9) + "after 1 0;after 2 1;after 3 2;after 4 3;after 5 4;after 6 5;after 7 6;", "at 8 8;",
            NONE, 1);
    }

    static void p20_theLeastOfSeveralToAskFor() {
        sureIs(ONE + ONE, "before 0 1;", NONE, 1);
        sureIs(ONE + ONE, "before 1 0;", NONE, 1);
        sureIs(ONE + ONE + ONE, "before 0 1;", NONE, 2);
        sureIs(ONE + ONE + ONE, "at 2 1;", NONE, 1);
    }

    static void p20_aheadOrNotTheGreaterNumber() {
        // Of three, 0 is ahead of 1 in one, ahead of 2 in two; 1 is ahead of 2 in all.
        sureIs(ONE + ONE + ONE + "after 2 1;", "", NONE, 1);
        // 2 0 1 and 0 2 1 fit, 0 is ahead of 1 in both: 0 and 2 are the only ones to ask for.
        sureIs(ONE + ONE + ONE, "at 1 2;", NONE, 2);
        // Of four, 0 is ahead of 1 in one, ahead of 2 in one; 1 is ahead of 2 in two.
        sureIs(ONE + ONE + ONE, "not 0 0;", NONE, 11);
    }

    static void p20_noneSuchOfEither() {
        SewnYear x = of(ONE + ONE, "");
        for (int k : new int[] {-1, 1, 2, LOW, HIGH}) {
            Due.is("coat " + k, x.sure(k, 0, 0), NONE);
            Due.is("sight " + k, x.sure(0, k, 0), NONE);
            Due.is("to ask, coat " + k, x.sure(k, 0, NONE), NONE);
            Due.is("to ask, sight " + k, x.sure(0, k, NONE), NONE);
        }
        Due.is("none", new SewnYear().sure(0, 0, NONE), NONE);
    }
}
