/**
 * What can be done to a COAT, and what comes of it: promises 8, 9 and 21. That there is no day behind day 99 can't be
 * seen: a LIFE has 40 DEEDS at most, and 60 are drawn at most.
 */
final class LifeEdges {
    private static final int NONE = SewnYear.NONE;
    private static final int NO_STATE = -1000;
    private static final int LOW = Integer.MIN_VALUE;
    private static final int HIGH = Integer.MAX_VALUE;

    private LifeEdges() {
    }

    private static SewnYear of(String coat, String life) {
        SewnYear x = new SewnYear();
        Due.is(coat, Tape.tell(x, 0, coat), 0);
        Due.is(life, Tape.tell(x, 1, life), 0);
        return x;
    }

    private static void stopIs(String coat, String life, int stop) {
        Due.is(coat + " " + life + " STOP", of(coat, life).stop(0, 0), stop);
    }

    /** Of a STATE: the day, GIRTH, sewn that day, BURST, WASTE, WHOLE. */
    private static void stateIs(SewnYear x, int n, int... due) {
        for (int what = 0; what < due.length; what++) {
            Due.is("STATE " + n + " what " + what, x.state(0, 0, n, what), due[what]);
        }
    }

    private static String sew(int seam, int n) {
        return Tape.times("sew " + seam + ";", n);
    }

    // Promise 8

    static void p8_noDeedsAndAllOfThem() {
        stopIs("", "", 0);
        stopIs("", "day;", 1);
        stopIs("", Tape.times("day;", 40), 40);
        stopIs("", Tape.times("grow 9;", 40), 40);
        stopIs("", Tape.times("shrink 9;", 40), 40);
        stopIs("", Tape.times("day;", 39) + "sew 0;", 39);
        stopIs("", "sew 0;" + Tape.times("day;", 39), 0);
    }

    static void p8_theFirstThatCannotBe() {
        stopIs("seam 1 0 0;", "day;sew 1;day;sew 1;", 1);
        stopIs("seam 1 0 0;", "sew 0;day;sew 0;sew 0;", 2);
    }

    static void p8_noneSuchOfEither() {
        SewnYear x = of("", "");
        for (int k : new int[] {-1, 1, 2, LOW, HIGH}) {
            Due.is("coat " + k, x.stop(k, 0), NONE);
            Due.is("life " + k, x.stop(0, k), NONE);
        }
        Due.is("of both", x.stop(0, 0), 0);
        SewnYear y = new SewnYear();
        y.text(0, NONE);
        Due.is("no LIFE", y.stop(0, 0), NONE);
        SewnYear z = new SewnYear();
        z.text(1, NONE);
        Due.is("no COAT", z.stop(0, 0), NONE);
    }

    static void p8_theSecondOfEither() {
        SewnYear x = of("seam 1 0 0;", "day;sew 0;");
        Tape.tell(x, 0, "");
        Tape.tell(x, 1, "sew 0;");
        Due.is("0 of 0", x.stop(0, 0), 2);
        Due.is("0 of 1", x.stop(1, 0), 1);
        Due.is("1 of 0", x.stop(0, 1), 1);
        Due.is("1 of 1", x.stop(1, 1), 0);
    }

    static void p8_aSeamThatIsNotThere() {
        for (String deed : new String[] {"sew ", "unpick ", "tear "}) {
            stopIs("", deed + "0;", 0);
            stopIs("seam 2 0 0;", "sew 0;" + deed + "1;", 1);
            stopIs("seam 2 0 0;", "sew 0;" + deed + "8;", 1);
            stopIs(Tape.times("seam 2 0 0;", 8) + "pace 9;", "sew 7;" + deed + "8;", 1);
            stopIs(Tape.times("seam 2 0 0;", 9) + "pace 9;", "sew 8;" + deed + "8;", 2);
        }
    }

    static void p8_sewUpToAllItsStitches() {
        stopIs("seam 1 0 0;pace 9;", sew(0, 2), 1);
        stopIs("seam 8 0 0;pace 9;", sew(0, 9), 8);
        stopIs("seam 9 0 0;pace 9;", sew(0, 9), 9);
        stopIs("seam 9 0 0;pace 9;", sew(0, 9) + "day;sew 0;", 10);
    }

    static void p8_sewIfAllThoseAheadAreWhole() {
        String coat = "seam 9 0 0;seam 1 0 0;after 1 0;pace 9;";
        stopIs(coat, "sew 1;", 0);
        stopIs(coat, sew(0, 8) + "sew 1;", 8);
        stopIs(coat, sew(0, 9) + "day;sew 1;", 11);
        String two = Tape.times("seam 1 0 0;", 3) + "after 2 0;after 2 1;pace 9;";
        stopIs(two, "sew 0;sew 2;", 1);
        stopIs(two, "sew 1;sew 2;", 1);
        stopIs(two, "sew 0;sew 1;sew 2;", 3);
    }

    static void p8_sewIfItIsWholeNoMore() {
        String coat = "seam 2 0 0;seam 1 0 0;after 1 0;pace 9;";
        stopIs(coat, "sew 0;sew 0;unpick 0;sew 1;", 3);
        stopIs(coat, "sew 0;sew 0;tear 0;sew 1;", 3);
        stopIs(coat, "sew 0;sew 0;grow 1;sew 1;", 3);
        stopIs(coat, "sew 0;sew 0;unpick 0;sew 0;sew 1;", 4);
    }

    static void p8_sewFewerThanPaceADay() {
        for (int pace = 1; pace <= 9; pace++) {
            String coat = "seam 9 0 0;seam 9 0 0;pace " + pace + ";";
            stopIs(coat, sew(0, pace) + "sew 1;", pace);
            stopIs(coat, sew(0, pace) + "day;" + sew(1, pace) + "sew 1;", 2 * pace + 1);
        }
        stopIs("seam 9 0 0;", sew(0, 2), 1);
    }

    static void p8_whatIsLostGivesNoPaceBack() {
        String coat = "seam 2 0 0;pace 2;";
        stopIs(coat, sew(0, 2) + "unpick 0;sew 0;", 3);
        stopIs(coat, sew(0, 2) + "tear 0;sew 0;", 3);
        stopIs(coat, sew(0, 2) + "grow 1;sew 0;", 3);
        stopIs(coat, sew(0, 2) + "tear 0;day;sew 0;", 5);
    }

    static void p8_unpickAndTearWhatHasAStitch() {
        for (String deed : new String[] {"unpick 0;", "tear 0;"}) {
            stopIs("seam 9 0 0;pace 9;", deed, 0);
            stopIs("seam 9 0 0;pace 9;", "sew 0;" + deed + deed, 2);
        }
        stopIs("seam 9 0 0;pace 9;", sew(0, 2) + Tape.times("unpick 0;", 2), 3);
        stopIs("seam 9 0 0;pace 9;", sew(0, 3) + Tape.times("unpick 0;", 3), 5);
        stopIs("seam 9 0 0;pace 9;", sew(0, 9) + Tape.times("unpick 0;", 6), 14);
    }

    static void p8_unpickIfNoneBehindHasAStitch() {
        String coat = "seam 1 0 0;seam 3 0 0;after 1 0;pace 9;";
        stopIs(coat, "sew 0;sew 1;unpick 0;", 2);
        stopIs(coat, "sew 0;sew 1;unpick 1;unpick 0;", 4);
        stopIs(coat, "sew 0;sew 1;sew 1;sew 1;unpick 1;unpick 0;", 5);
        stopIs(coat, "sew 0;sew 1;tear 1;unpick 0;", 4);
        stopIs("seam 1 0 0;seam 3 0 0;pace 9;", "sew 0;sew 1;unpick 0;", 3);
        stopIs("seam 3 0 0;seam 1 0 0;after 0 1;pace 9;", "sew 1;sew 0;unpick 1;", 2);
        stopIs("seam 3 0 0;seam 1 0 0;after 0 1;pace 9;", "sew 1;sew 0;unpick 0;unpick 1;", 4);
    }

    static void p8_unpickLooksAtThoseThatComeAfterItAlone() {
        String row = Tape.times("seam 1 0 0;", 3) + "after 1 0;after 2 1;pace 9;";
        stopIs(row, "sew 0;sew 1;sew 2;tear 1;unpick 0;", 5);
        stopIs(row, "sew 0;sew 1;sew 2;unpick 1;", 3);
    }

    static void p8_tearThoughOneBehindHasAStitch() {
        stopIs("seam 1 0 0;seam 3 0 0;after 1 0;pace 9;", "sew 0;sew 1;tear 0;sew 1;", 3);
    }

    // Promise 9

    static void p9_itBegins() {
        SewnYear x = of("seam 2 0 0;grows 0 9;grows 1 5;", "");
        stateIs(x, 0, 0, 9, 0, 0, 0, 0);
        Due.is("no stitch", x.state(0, 0, 0, 10), 0);
        Due.is("FITS nothing", x.state(0, 0, 0, 20), NO_STATE);
    }

    static void p9_upToStop() {
        SewnYear x = of("seam 2 0 0;pace 9;", "day;sew 0;sew 0;sew 0;day;");
        Due.is("STOP", x.stop(0, 0), 3);
        Due.is("n -1", x.state(0, 0, -1, 0), NO_STATE);
        Due.is("n 0", x.state(0, 0, 0, 0), 0);
        Due.is("n 3", x.state(0, 0, 3, 0), 1);
        for (int n : new int[] {4, 5, 6, 40, 41, LOW, HIGH}) {
            Due.is("n " + n, x.state(0, 0, n, 0), NO_STATE);
        }
    }

    static void p9_upToAllDeeds() {
        SewnYear x = of("", Tape.times("day;", 40));
        Due.is("n 40", x.state(0, 0, 40, 0), 40);
        Due.is("n 41", x.state(0, 0, 41, 0), NO_STATE);
        SewnYear y = of("", "");
        Due.is("n 0 of none", y.state(0, 0, 0, 0), 0);
        Due.is("n 1 of none", y.state(0, 0, 1, 0), NO_STATE);
    }

    static void p9_eachWhatAndNoOther() {
        SewnYear x = of(Tape.times("seam 1 0 9;", 9) + "pace 9;grows 0 4;", "sew 0;sew 1;sew 2;sew 3;sew 4;sew 5;sew 6;sew 7;sew 8;");
        for (int what = -40; what < 130; what++) {
            int due = what >= 10 && what < 19 ? 1 : what >= 20 && what < 29 ? 4 : NO_STATE;
            switch (what) {
                case 0: case 3: case 4: due = 0; break;
                case 1: due = 4; break;
                case 2: due = 9; break;
                case 5: due = 511; break;
                default: break;
            }
            Due.is("what " + what, x.state(0, 0, 9, what), due);
        }
        Due.is("what LOW", x.state(0, 0, 9, LOW), NO_STATE);
        Due.is("what HIGH", x.state(0, 0, 9, HIGH), NO_STATE);
    }

    static void p9_aSeamThatIsNotThere() {
        SewnYear x = of("seam 1 0 0;", "sew 0;");
        Due.is("stitches of the last", x.state(0, 0, 1, 10), 1);
        Due.is("stitches of the next", x.state(0, 0, 1, 11), NO_STATE);
        Due.is("FITS of the last", x.state(0, 0, 1, 20), 0);
        Due.is("FITS of the next", x.state(0, 0, 1, 21), NO_STATE);
        Due.is("stitches without SEAMS", of("", "").state(0, 0, 0, 10), NO_STATE);
    }

    static void p9_noneSuchOfEither() {
        SewnYear x = of("", "");
        for (int k : new int[] {-1, 1, 2, LOW, HIGH}) {
            Due.is("coat " + k, x.state(k, 0, 0, 0), NO_STATE);
            Due.is("life " + k, x.state(0, k, 0, 0), NO_STATE);
        }
    }

    static void p9_eachDaysGrowthAsItComes() {
        SewnYear x = of("grows 0 1;grows 1 2;grows 39 3;grows 40 4;grows 41 5;", Tape.times("day;", 40));
        int[][] due = {{0, 1}, {1, 3}, {2, 3}, {38, 3}, {39, 6}, {40, 10}};
        for (int[] d : due) {
            stateIs(x, d[0], d[0], d[1]);
        }
    }

    static void p9_girthFarBelowAndAbove() {
        SewnYear x = of("", Tape.times("shrink 9;", 40));
        Due.is("shrunk", x.state(0, 0, 1, 1), -9);
        Due.is("40 times", x.state(0, 0, 40, 1), -360);
        SewnYear y = of("grows 0 9;", Tape.times("grow 9;", 40));
        Due.is("grown 40 times", y.state(0, 0, 40, 1), 369);
    }

    static void p9_fitsFarBelowAndAbove() {
        SewnYear x = of("seam 1 0 0;", Tape.times("shrink 9;", 39) + "sew 0;");
        Due.is("FITS", x.state(0, 0, 40, 20), -351);
        SewnYear y = of("seam 1 0 0;grows 0 9;", Tape.times("grow 9;", 39) + "sew 0;");
        Due.is("FITS", y.state(0, 0, 40, 20), 360);
    }

    static void p9_fitsTheGirthAsItBecomesWhole() {
        SewnYear x = of("seam 2 0 9;pace 9;", "grow 3;sew 0;grow 4;sew 0;grow 2;");
        Due.is("not WHOLE", x.state(0, 0, 3, 20), NO_STATE);
        Due.is("WHOLE", x.state(0, 0, 4, 20), 7);
        Due.is("grown since", x.state(0, 0, 5, 20), 7);
    }

    static void p9_burstsIfMoreThanEaseAbove() {
        for (int ease = 1; ease <= 9; ease++) {
            SewnYear x = of("seam 3 0 " + ease + ";pace 3;", sew(0, 3) + "grow " + ease + ";grow 1;");
            stateIs(x, 4, 0, ease, 3, 0, 0, 1);
            stateIs(x, 5, 0, ease + 1, 3, 1, 3, 0);
            Due.is("no stitch", x.state(0, 0, 5, 10), 0);
            Due.is("FITS nothing", x.state(0, 0, 5, 20), NO_STATE);
        }
    }

    static void p9_burstsWithoutEase() {
        SewnYear x = of("seam 1 0 0;", "sew 0;grow 1;");
        stateIs(x, 1, 0, 0, 1, 0, 0, 1);
        stateIs(x, 2, 0, 1, 1, 1, 1, 0);
    }

    static void p9_burstsByADaysGrowth() {
        SewnYear x = of("seam 1 0 2;grows 1 2;grows 2 1;", "sew 0;day;day;");
        stateIs(x, 2, 1, 2, 0, 0, 0, 1);
        stateIs(x, 3, 2, 3, 0, 1, 1, 0);
    }

    static void p9_burstsByAllGrowthSince() {
        SewnYear x = of("seam 1 0 9;grows 1 5;", "sew 0;grow 4;day;shrink 9;grow 9;grow 1;");
        Due.is("at EASE", x.state(0, 0, 3, 3), 0);
        Due.is("shrunk, grown back", x.state(0, 0, 5, 3), 0);
        Due.is("one more", x.state(0, 0, 6, 3), 1);
    }

    static void p9_onlyAWholeSeamBursts() {
        SewnYear x = of("seam 9 0 0;pace 9;", sew(0, 8) + "grow 9;sew 0;grow 1;");
        stateIs(x, 9, 0, 9, 8, 0, 0, 0);
        Due.is("its stitches", x.state(0, 0, 9, 10), 8);
        stateIs(x, 10, 0, 9, 9, 0, 0, 1);
        stateIs(x, 11, 0, 10, 9, 1, 9, 0);
    }

    static void p9_severalBurstAtOnce() {
        SewnYear x = of("seam 1 0 0;seam 2 0 1;seam 3 0 2;pace 9;", "sew 0;sew 1;sew 1;sew 2;sew 2;sew 2;grow 2;");
        stateIs(x, 6, 0, 0, 6, 0, 0, 7);
        stateIs(x, 7, 0, 2, 6, 2, 3, 4);
    }

    static void p9_howOftenOneBurst() {
        SewnYear x = of("seam 1 0 0;pace 9;", Tape.times("sew 0;grow 1;", 9));
        stateIs(x, 18, 0, 9, 9, 9, 9, 0);
    }

    static void p9_oneAheadBurstsThoseBehindStay() {
        SewnYear x = of("seam 1 0 0;seam 1 0 9;after 1 0;pace 9;", "sew 0;sew 1;grow 1;");
        stateIs(x, 3, 0, 1, 2, 1, 1, 2);
    }

    static void p9_unpickedTwoFewerNoneBelowZero() {
        for (int has = 1; has <= 9; has++) {
            SewnYear x = of("seam 9 0 0;pace 9;", sew(0, has) + "unpick 0;");
            Due.is("WASTE of " + has, x.state(0, 0, has + 1, 4), Math.min(2, has));
            Due.is("left of " + has, x.state(0, 0, has + 1, 10), Math.max(0, has - 2));
        }
    }

    static void p9_unpickedItIsNotWhole() {
        SewnYear x = of("seam 2 0 9;pace 9;", "sew 0;sew 0;unpick 0;grow 5;sew 0;sew 0;");
        Due.is("FITS", x.state(0, 0, 2, 20), 0);
        Due.is("unpicked", x.state(0, 0, 3, 20), NO_STATE);
        Due.is("WHOLE", x.state(0, 0, 3, 5), 0);
        Due.is("FITS anew", x.state(0, 0, 6, 20), 5);
    }

    static void p9_allThatIsTornIsWaste() {
        for (int has = 1; has <= 9; has += 4) {
            SewnYear x = of("seam 9 0 0;pace 9;", sew(0, has) + "tear 0;");
            Due.is("WASTE of " + has, x.state(0, 0, has + 1, 4), has);
            Due.is("left of " + has, x.state(0, 0, has + 1, 10), 0);
        }
    }

    static void p9_wasteOfAllKinds() {
        SewnYear x = of("seam 4 0 0;seam 3 0 9;pace 9;", sew(0, 4) + "grow 1;" + sew(1, 3) + "unpick 1;tear 1;");
        Due.is("burst", x.state(0, 0, 5, 4), 4);
        Due.is("unpicked", x.state(0, 0, 9, 4), 6);
        Due.is("torn", x.state(0, 0, 10, 4), 7);
        Due.is("one BURST", x.state(0, 0, 10, 3), 1);
    }

    static void p9_sewnThatDay() {
        SewnYear x = of("seam 9 0 0;pace 3;", sew(0, 3) + "unpick 0;tear 0;day;sew 0;");
        Due.is("up to PACE", x.state(0, 0, 3, 2), 3);
        Due.is("unpicked", x.state(0, 0, 4, 2), 3);
        Due.is("torn", x.state(0, 0, 5, 2), 3);
        Due.is("the next day", x.state(0, 0, 6, 2), 0);
        Due.is("one", x.state(0, 0, 7, 2), 1);
    }

    static void p9_askingChangesNothing() {
        SewnYear x = of("seam 2 0 0;seam 1 0 0;pace 9;", "sew 0;sew 1;sew 0;");
        Due.is("behind 3", x.state(0, 0, 3, 5), 3);
        Due.is("behind 2", x.state(0, 0, 2, 5), 2);
        Due.is("behind 0", x.state(0, 0, 0, 5), 0);
        Due.is("behind 3 again", x.state(0, 0, 3, 5), 3);
    }

    // Promise 21

    /** x as 32 bits without sign. */
    private static long next(long x) {
        return x * 1103515245L + 12345L & 0xffffffffL;
    }

    private static final int[] SEEDS = {0, 1, -1, 2, LOW, HIGH, LOW + 1, 65535, 65536, -65536, 123456789, -987654321};

    static void p21_withoutSeamsNoNumberOfOneIsDrawn() {
        for (int seed : SEEDS) {
            SewnYear x = new SewnYear();
            x.text(0, NONE);
            int day = 0;
            int girth = 0;
            long v = seed & 0xffffffffL;
            for (int n = 0; n <= 60; n++) {
                Due.is("day of " + seed + " " + n, x.drawn(0, seed, n, 0), day);
                Due.is("girth of " + seed + " " + n, x.drawn(0, seed, n, 1), girth);
                v = next(v);
                int drawn = (int) ((v >> 16) % 10);
                if (drawn == 7) {
                    v = next(v);
                    girth += 1 + (int) ((v >> 16) % 3);
                } else if (drawn >= 8) {
                    day++;
                }
            }
        }
    }

    static void p21_withOneSeamItsNumberIsDrawn() {
        for (int seed : SEEDS) {
            SewnYear x = new SewnYear();
            Tape.tell(x, 0, "seam 9 0 9;pace 2;");
            int day = 0;
            int today = 0;
            int has = 0;
            int waste = 0;
            int girth = 0;
            int bursts = 0;
            int fits = 0;
            long v = seed & 0xffffffffL;
            for (int n = 0; n <= 60; n++) {
                int[] due = {day, girth, today, bursts, waste, has == 9 ? 1 : 0};
                for (int what = 0; what < 6; what++) {
                    Due.is("what " + what + " of " + seed + " " + n, x.drawn(0, seed, n, what), due[what]);
                }
                Due.is("stitches of " + seed + " " + n, x.drawn(0, seed, n, 10), has);
                v = next(v);
                int drawn = (int) ((v >> 16) % 10);
                v = drawn < 8 ? next(v) : v;
                if (drawn < 6 && has < 9 && today < 2) {
                    has++;
                    today++;
                    fits = girth;
                } else if (drawn == 6) {
                    waste += Math.min(2, has);
                    has -= Math.min(2, has);
                } else if (drawn == 7) {
                    girth += 1 + (int) ((v >> 16) % 3);
                } else if (drawn > 7) {
                    day++;
                    today = 0;
                }
                if (has == 9 && girth - fits > 9) {
                    bursts++;
                    waste += 9;
                    has = 0;
                }
            }
        }
    }

    static void p21_fromNoneToSixtyTimes() {
        SewnYear x = of("seam 1 0 0;grows 0 3;", "");
        Due.is("-1 times", x.drawn(0, 7, -1, 0), NO_STATE);
        Due.is("0 times", x.drawn(0, 7, 0, 1), 3);
        Due.is("60 times", x.drawn(0, 7, 60, 0) >= 0, true);
        for (int n : new int[] {61, 62, LOW, HIGH}) {
            Due.is(n + " times", x.drawn(0, 7, n, 0), NO_STATE);
        }
    }

    static void p21_eachWhatAndNoOther() {
        SewnYear x = of(Tape.times("seam 9 0 0;", 8), "");
        for (int what = -30; what < 60; what++) {
            boolean told = what >= 0 && what < 6 || what >= 10 && what < 18;
            Due.is("what " + what, x.drawn(0, 7, 0, what), told ? 0 : NO_STATE);
        }
        Due.is("what LOW", x.drawn(0, 7, 0, LOW), NO_STATE);
        Due.is("what HIGH", x.drawn(0, 7, 0, HIGH), NO_STATE);
    }

    static void p21_noneSuch() {
        SewnYear x = new SewnYear();
        Due.is("none", x.drawn(0, 7, 0, 0), NO_STATE);
        x.text(0, NONE);
        for (int k : new int[] {-1, 1, 2, LOW, HIGH}) {
            Due.is("coat " + k, x.drawn(k, 7, 0, 0), NO_STATE);
        }
    }

    static void p21_drawingChangesNothing() {
        SewnYear x = Retold.some();
        String told = Retold.of(x);
        x.drawn(0, 99, 60, 0);
        Due.is("all is as it was", Retold.of(x), told);
        Due.is("the LIFE too", x.stop(0, 0), 3);
        Due.is("the same again", x.drawn(0, 99, 60, 1), x.drawn(0, 99, 60, 1));
    }
}
