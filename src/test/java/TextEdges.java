/** How texts are read, and their faults: promises 4 and 5. */
final class TextEdges {
    private static final int NONE = SewnYear.NONE;
    private static final int LOW = Integer.MIN_VALUE;
    private static final int HIGH = Integer.MAX_VALUE;

    private static final String SEAM = "seam 1 0 0;";
    private static final String WEARER = "wearer 0 0 1 0;";

    private TextEdges() {
    }

    /** A line of a text: its word, of each NUMBER what it is in a good line, the least, the most. */
    private static final class Line {
        final int sort;
        final String word;
        final int[] good;
        final int[] least;
        final int[] most;

        Line(int sort, String word, int... numbers) {
            this.sort = sort;
            this.word = word;
            int n = numbers.length / 3;
            good = new int[n];
            least = new int[n];
            most = new int[n];
            for (int i = 0; i < n; i++) {
                good[i] = numbers[3 * i];
                least[i] = numbers[3 * i + 1];
                most[i] = numbers[3 * i + 2];
            }
        }

        String with(int i, String number) {
            StringBuilder text = new StringBuilder(word);
            for (int k = 0; k < good.length; k++) {
                text.append(' ').append(k == i ? number : Integer.toString(good[k]));
            }
            return text.append(';').toString();
        }

        /** The place of a NUMBER, if those ahead of it are as in a good line. */
        int placeOf(int i) {
            int place = word.length() + 1;
            for (int k = 0; k < i; k++) {
                place += Integer.toString(good[k]).length() + 1;
            }
            return place;
        }

        /** So that no SEAM and no WEARER is missing. */
        String ahead() {
            return word.equals("after") ? Tape.times(SEAM, 9) : word.equals("away") ? Tape.times(WEARER, 6) : "";
        }
    }

    private static final Line[] LINES = {
        new Line(0, "seam", 3, 1, 9, 2, 0, 3, 7, 0, 9),
        new Line(0, "after", 5, 0, 8, 6, 0, 8),
        new Line(0, "grows", 50, 0, 99, 4, 0, 9),
        new Line(0, "pace", 4, 1, 9),
        new Line(1, "sew", 5, 0, 8),
        new Line(1, "unpick", 5, 0, 8),
        new Line(1, "tear", 5, 0, 8),
        new Line(1, "grow", 5, 1, 9),
        new Line(1, "shrink", 5, 1, 9),
        new Line(1, "day"),
        new Line(2, "speed", 5, 1, 9),
        new Line(2, "miles", 5, 1, 9),
        new Line(2, "tailor", 5, 0, 9, 6, 0, 9),
        new Line(2, "wearer", 5, 0, 9, 6, 0, 9, 20, 1, 30, 50, 0, 99),
        new Line(2, "away", 3, 0, 5, 0, 0, 99, 99, 0, 99),
        new Line(3, "before", 5, 0, 8, 6, 0, 8),
        new Line(3, "at", 5, 0, 8, 5, 0, 8),
        new Line(3, "not", 5, 0, 8, 5, 0, 8),
    };

    private static void isFault(int sort, String text, int fault, int place) {
        SewnYear x = new SewnYear();
        String of = sort + " '" + text + "'";
        Due.is(of, Tape.tell(x, sort, text), fault == 0 ? 0 : NONE);
        Due.is(of + " FAULT", x.fault(0), fault);
        Due.is(of + " place", x.fault(1), fault == 0 ? NONE : place);
    }

    private static void isGood(int sort, String text) {
        isFault(sort, text, 0, NONE);
    }

    // Promise 4: which text

    static void p4_aFurtherOneUpToTwo() {
        for (int sort = 0; sort < 4; sort++) {
            SewnYear x = new SewnYear();
            Due.is("the first", x.text(sort, NONE), 0);
            Due.is("the second", x.text(sort, NONE), 1);
            Due.is("a third", x.text(sort, NONE), -2);
            Due.is("how many", x.count(sort), 2);
        }
    }

    static void p4_inThePlaceOfOneThatIsThere() {
        for (int sort = 0; sort < 4; sort++) {
            SewnYear x = new SewnYear();
            Due.is("none is there", x.text(sort, 0), -2);
            x.text(sort, NONE);
            Due.is("the only one", x.text(sort, 0), 0);
            Due.is("the next", x.text(sort, 1), -2);
            x.text(sort, NONE);
            Due.is("the first", x.text(sort, 0), 0);
            Due.is("the last", x.text(sort, 1), 1);
            for (int at : new int[] {2, 3, -2, -3, LOW, HIGH}) {
                Due.is("in place " + at, x.text(sort, at), -2);
            }
            Due.is("how many", x.count(sort), 2);
        }
    }

    static void p4_noSuchSort() {
        SewnYear x = Retold.some();
        String told = Retold.of(x);
        for (int sort : new int[] {-2, -1, 4, 5, LOW, HIGH}) {
            Due.is("a further one " + sort, x.text(sort, NONE), -2);
            Due.is("in the place of one " + sort, x.text(sort, 0), -2);
        }
        Due.is("all is as it was", Retold.of(x), told);
    }

    private static void isNotRead(SewnYear x, int sort, int at) {
        Tape.tell(x, 0, 0, "pace 0;");
        Due.is("a FAULT", x.fault(0), 2);
        Tape.put(x, "pace 0;;");
        Due.is("refused", x.text(sort, at), -2);
        Due.is("FAULT", x.fault(0), 0);
        Due.is("place", x.fault(1), NONE);
        Due.is("tape", x.end(1), NONE);
    }

    static void p4_aRefusedTextIsNotRead() {
        SewnYear x = Retold.some();
        String told = Retold.of(x);
        isNotRead(x, 0, NONE);
        isNotRead(x, 0, 2);
        isNotRead(x, 0, -2);
        isNotRead(x, 1, 1);
        isNotRead(x, 4, NONE);
        isNotRead(x, -1, NONE);
        Due.is("all is as it was", Retold.of(x), told);
    }

    static void p4_aGoodTextIsNotTakenIfThereIsNoRoom() {
        SewnYear x = Retold.some();
        String told = Retold.of(x);
        Due.is("refused", Tape.tell(x, 0, "pace 7;"), -2);
        Due.is("the tape is empty", x.end(1), NONE);
        Due.is("all is as it was", Retold.of(x), told);
    }

    static void p4_theTapeIsEmptyThen() {
        SewnYear x = new SewnYear();
        Tape.tell(x, 1, "day;");
        Due.is("behind a good text", x.end(1), NONE);
        Tape.tell(x, 1, "day");
        Due.is("behind a FAULT", x.end(1), NONE);
        Due.is("feed begins anew", x.feed(0x6461793b, 0x20202020, 0x20202020, 0x20202020, 0x20202020), 20);
        Due.is("nothing older is read", x.text(1, 0), 0);
        Due.is("deeds", x.deed(0, NONE, 0), 1);
    }

    static void p4_aFaultLeavesWhatIsTold() {
        String[] faulty = {"pace 9;seam 0 0 0;", "sew 1;sew 9;", "wearer 1 1 1 1;speed 0;", "at 0 0;at 0 9;"};
        for (int sort = 0; sort < 4; sort++) {
            SewnYear x = Retold.some();
            x.image(0);
            int there = x.count(sort);
            Due.is("in the place of one", Tape.tell(x, sort, 0, faulty[sort]), NONE);
            x.text(1, 9);
            Due.is("none more", x.count(sort), there);
            String told = Retold.of(x);
            x.again(0);
            Due.is("all is as it was", told, Retold.of(x));
        }
    }

    static void p4_aFaultyFurtherOneIsNotThere() {
        String[] faulty = {"pace 0;", "sew 9;", "speed 0;", "at 0 9;"};
        for (int sort = 0; sort < 4; sort++) {
            SewnYear x = new SewnYear();
            Due.is("a FAULT", Tape.tell(x, sort, faulty[sort]), NONE);
            Due.is("none", x.count(sort), 0);
            Due.is("its number is free", x.text(sort, NONE), 0);
        }
    }

    static void p4_inThePlaceOfOneNothingOfThatIsLeft() {
        SewnYear x = Retold.some();
        for (int sort = 0; sort < 4; sort++) {
            Due.is("an empty one", x.text(sort, 0), 0);
        }
        Due.is("coat", Retold.coat(x, 0), " 0 pace 1 0 0 0 0 0 0 .. 0");
        Due.is("the other coat", x.coat(1, 0), 1);
        Due.is("life", Retold.life(x, 0), "");
        Due.is("town", Retold.town(x, 0), " 0 3 2 0 0");
        Due.is("sight", Retold.sight(x, 0), "");
        Tape.tell(x, 0, 0, SEAM + SEAM);
        Due.is("no AFTER", x.coat(0, 41), 0);
        Tape.tell(x, 2, 0, WEARER + WEARER);
        Due.is("not AWAY", x.town(0, 51), NONE);
    }

    static void p4_aFaultyTextLeavesNothingForTheNextOne() {
        SewnYear x = new SewnYear();
        Tape.tell(x, 0, Tape.times(SEAM, 3) + "after 2 1;pace 9;grows 7 9;;");
        Tape.tell(x, 0, Tape.times(SEAM, 3));
        Due.is("AFTER", x.coat(0, 42), 0);
        Due.is("PACE", x.coat(0, 1), 1);
        Due.is("GROWTH", x.coat(0, 107), 0);
        Tape.tell(x, 2, WEARER + "away 0 1 1;speed 9;miles 9;tailor 9 9;;");
        Tape.tell(x, 2, WEARER);
        Due.is("town", Retold.town(x, 0), " 1 3 2 0 0 (0 0 1 0 -1 -1)");
        Tape.tell(x, 1, "day;;");
        Tape.tell(x, 1, "sew 1;");
        Due.is("life", Retold.life(x, 0), " 0:1");
        Tape.tell(x, 3, "at 1 1;;");
        Tape.tell(x, 3, "not 2 2;");
        Due.is("sight", Retold.sight(x, 0), " 2:2:2");
    }

    // Promise 4: what a text is

    static void p4_nothingTold() {
        for (int sort = 0; sort < 4; sort++) {
            isGood(sort, "");
            isGood(sort, " ");
            isGood(sort, "\n");
            isGood(sort, Tape.times(" \n", 300));
        }
    }

    /** 99, 490 and 11 bytes. */
    static void p4_asMuchAsTheTapeHas() {
        String told = Tape.times("seam 9 3 9;", 9) + Tape.times("after 8 7;", 49);
        SewnYear x = new SewnYear();
        Due.is("600 bytes", Tape.tell(x, 0, told + "grows 99 9;"), 0);
        Due.is("SEAMS", x.coat(0, 0), 9);
        Due.is("AFTER", x.coat(0, 48), 128);
        Due.is("the last line", x.coat(0, 199), 9);
        isFault(0, told + "grows 99 9 ", 1, 600);
        isFault(0, told + "grows 9 10;", 2, 597);
    }

    static void p4_oneByteAlone() {
        for (int b = 0; b < 256; b++) {
            for (int sort = 0; sort < 4; sort++) {
                isFault(sort, "" + (char) b, b == 10 || b == 32 ? 0 : 1, 0);
            }
        }
    }

    static void p4_aByteBetweenAWordAndItsNumber() {
        for (int b = 0; b < 256; b++) {
            String text = "sew" + (char) b + "8;";
            if (b >= 'a' && b <= 'z') {
                isFault(1, text, 1, 0);
            } else if (b >= '1' && b <= '9') {
                isFault(1, text, 2, 3);
            } else {
                isFault(1, text, b == 10 || b == 32 || b == '0' ? 0 : 1, 3);
            }
        }
    }

    static void p4_aByteBetweenTwoNumbers() {
        for (int b = 0; b < 256; b++) {
            isFault(3, "at 1" + (char) b + "2;", b == 10 || b == 32 ? 0 : 1, b >= '0' && b <= '9' ? 3 : 4);
        }
    }

    static void p4_aByteBehindALine() {
        for (int b = 0; b < 256; b++) {
            isFault(1, "day;" + (char) b, b == 10 || b == 32 ? 0 : 1, 4);
        }
    }

    static void p4_blanksOnlyWhereTokensWouldRunTogether() {
        isGood(0, "seam9 3 9;seam1 0 0;after1 0;pace9;grows99 9;");
        isGood(1, "sew8;day;unpick0;");
        isGood(2, "wearer9 9 30 99;away0 99 99;");
        isGood(3, "before0 1;at8 8;");
        isGood(0, "\n\n seam \n 9\n3  9 \n; \n");
    }

    static void p4_numbersOfOneOrTwoDigits() {
        isGood(1, "sew 8;");
        isGood(1, "sew 08;");
        isGood(1, "sew 00;");
        isFault(1, "sew 008;", 1, 4);
        isFault(1, "sew 000;", 1, 4);
        isFault(1, "sew 100;", 1, 4);
        isFault(1, "sew " + Tape.times("0", 500) + ";", 1, 4);
        isFault(0, "seam 1 0 4294967296;", 1, 9);
    }

    static void p4_wordsAsLongAsTheyGo() {
        isFault(1, "dayday;", 1, 0);
        isFault(1, "days;", 1, 0);
        isFault(1, "da;", 1, 0);
        isFault(1, "da y;", 1, 0);
        isFault(1, "grows 1;", 1, 0);
        isFault(0, "grow 1 1;", 1, 0);
        isFault(1, Tape.times("day", 200), 1, 0);
        isFault(1, "day;" + Tape.times("z", 596), 1, 4);
    }

    static void p4_eachLine() {
        for (Line line : LINES) {
            isGood(line.sort, line.ahead() + line.with(NONE, ""));
        }
    }

    static void p4_noLineOfAnotherSort() {
        for (Line line : LINES) {
            for (int sort = 0; sort < 4; sort++) {
                if (sort != line.sort) {
                    isFault(sort, line.with(NONE, ""), 1, 0);
                }
            }
        }
    }

    static void p4_noWordOneLetterShorterOrLonger() {
        for (Line line : LINES) {
            String rest = line.with(NONE, "").substring(line.word.length());
            for (char c = 'a'; c <= 'z'; c++) {
                isFault(line.sort, line.word + c + rest, 1, 0);
                isFault(line.sort, c + line.word + rest, 1, 0);
            }
            isFault(line.sort, line.word.substring(1) + rest, 1, 0);
            isFault(line.sort, line.word.substring(0, line.word.length() - 1) + rest, 1, 0);
        }
    }

    static void p4_noWordOfAnotherLetter() {
        for (Line line : LINES) {
            String text = line.with(NONE, "");
            for (int i = 0; i < line.word.length(); i++) {
                isFault(line.sort, text.substring(0, i) + "x" + text.substring(i + 1), 1, 0);
            }
        }
    }

    /** Cut anywhere ahead of its ;, a line wants more: at the end, or at a word that is no word yet. */
    static void p4_aLineCutShort() {
        for (Line line : LINES) {
            String text = line.with(NONE, "");
            for (int n = 1; n < text.length(); n++) {
                isFault(line.sort, text.substring(0, n), 1, n < line.word.length() ? 0 : n);
                isFault(line.sort, text.substring(0, n) + " ", 1, n < line.word.length() ? 0 : n + 1);
            }
        }
    }

    static void p4_oneNumberTooFewOrTooMany() {
        for (Line line : LINES) {
            String text = line.with(NONE, "");
            int end = text.length() - 1;
            isFault(line.sort, text.substring(0, end) + " 1;", 1, end + 1);
            if (line.good.length > 0) {
                int cut = text.lastIndexOf(' ');
                isFault(line.sort, text.substring(0, cut) + ";", 1, cut);
            }
        }
    }

    static void p4_aWordWhereANumberIsDue() {
        for (Line line : LINES) {
            for (int i = 0; i < line.good.length; i++) {
                isFault(line.sort, line.with(i, "day"), 1, line.placeOf(i));
            }
        }
    }

    static void p4_noLineWithoutAWord() {
        for (int sort = 0; sort < 4; sort++) {
            isFault(sort, ";", 1, 0);
            isFault(sort, "0;", 1, 0);
            isFault(sort, " 99;", 1, 1);
        }
    }

    /** Each NUMBER of each line, from 0 to 99: from the least to the most it is taken. */
    static void p4_eachNumberFromTheLeastToTheMost() {
        for (Line line : LINES) {
            boolean unlike = line.word.equals("after") || line.word.equals("before");
            for (int i = 0; i < line.good.length; i++) {
                for (int v = 0; v <= 99; v++) {
                    boolean like = unlike && v == line.good[1 - i];
                    int place = line.ahead().length() + line.placeOf(like ? 1 : i);
                    boolean good = v >= line.least[i] && v <= line.most[i] && !like;
                    isFault(line.sort, line.ahead() + line.with(i, Integer.toString(v)), good ? 0 : 2, place);
                }
            }
        }
    }

    static void p4_noSeamAfterItself() {
        for (int s = 0; s < 9; s++) {
            isFault(0, "after " + s + " " + s + ";" + Tape.times(SEAM, 9), 2, 8);
            isFault(3, "before " + s + " " + s + ";", 2, 9);
        }
        isFault(0, "after 0 00;" + SEAM, 2, 8);
        isFault(0, "after 9 9;", 2, 6);
        isFault(3, "before 9 9;", 2, 7);
        isGood(3, "at 3 3;not 3 3;");
    }

    static void p4_awayUpToNotAheadOfFrom() {
        isFault(2, WEARER + "away 0 50 49;", 2, 25);
        isGood(2, WEARER + "away 0 50 50;");
        isGood(2, WEARER + "away 0 50 51;");
        isFault(2, WEARER + "away 0 1 0;", 2, 24);
        isGood(2, WEARER + "away 0 0 0;");
        isFault(2, WEARER + "away 0 99 98;", 2, 25);
        isGood(2, WEARER + "away 0 99 99;");
    }

    static void p4_nineSeams() {
        isGood(0, Tape.times(SEAM, 9));
        isFault(0, Tape.times(SEAM, 10), 3, 99);
        isFault(0, Tape.times(SEAM, 54), 3, 99);
        isFault(0, Tape.times(SEAM, 9) + "\n " + SEAM, 3, 101);
    }

    static void p4_fortyDeeds() {
        for (Line line : LINES) {
            String text = line.with(NONE, "");
            if (line.sort == 1) {
                isGood(1, Tape.times(text, 40));
                isFault(1, Tape.times(text, 41), 3, 40 * text.length());
            }
        }
        isFault(1, Tape.times("day;", 150), 3, 160);
    }

    static void p4_sixWearers() {
        isGood(2, Tape.times(WEARER, 6));
        isFault(2, Tape.times(WEARER, 7), 3, 90);
        isFault(2, Tape.times(WEARER, 40), 3, 90);
    }

    static void p4_tenFacts() {
        for (Line line : LINES) {
            String text = line.with(NONE, "");
            if (line.sort == 3) {
                isGood(3, Tape.times(text, 10));
                isFault(3, Tape.times(text, 11), 3, 10 * text.length());
            }
        }
    }

    static void p4_linesThatStrikeAreNotCounted() {
        isGood(0, Tape.times("pace 1;", 85));
        isGood(0, SEAM + SEAM + Tape.times("after 1 0;", 57));
        isGood(0, Tape.times("grows 0 1;", 60));
        isGood(2, Tape.times("speed 1;", 75));
        isGood(2, WEARER + Tape.times("away 0 0 0;", 53));
    }

    // Promise 5

    static void p5_withoutAFault() {
        SewnYear x = new SewnYear();
        Due.is("of no text", x.fault(0), 0);
        Due.is("its place", x.fault(1), NONE);
        Tape.tell(x, 1, "day;");
        Due.is("of a good text", x.fault(0), 0);
        Due.is("its place", x.fault(1), NONE);
    }

    static void p5_anotherWhat() {
        SewnYear x = new SewnYear();
        Tape.tell(x, 1, " q");
        Due.is("the FAULT", x.fault(0), 1);
        Due.is("its place", x.fault(1), 1);
        for (int what : new int[] {-2, -1, 2, 3, LOW, HIGH}) {
            Due.is("what " + what, x.fault(what), NONE);
        }
    }

    static void p5_ofTheLatestText() {
        SewnYear x = new SewnYear();
        Tape.tell(x, 1, "sew 9;");
        Due.is("the first", x.fault(0), 2);
        Tape.tell(x, 1, "day;;");
        Due.is("the second", x.fault(0), 1);
        Due.is("its place", x.fault(1), 4);
        Tape.tell(x, 1, "day;");
        Due.is("the third, good", x.fault(0), 0);
        Due.is("its place", x.fault(1), NONE);
        Tape.tell(x, 1, "q");
        x.text(1, 9);
        Due.is("one that was not read", x.fault(0), 0);
        Due.is("its place", x.fault(1), NONE);
    }

    static void p5_otherCallsLeaveIt() {
        SewnYear x = Retold.some();
        Tape.tell(x, 1, 0, "day;sew 9;");
        x.feed(0, 0, 0, 0, 0);
        x.end(0);
        x.end(-1);
        x.image(0);
        x.image(3);
        x.again(2);
        x.stop(0, 0);
        x.orders(0);
        x.rounds(0, 0);
        x.fits(0, 0, NONE, NONE);
        x.drawn(0, 1, 60, 0);
        Due.is("FAULT", x.fault(0), 2);
        Due.is("place", x.fault(1), 8);
    }

    static void p5_oneIsToldAheadOfAllOthers() {
        isFault(0, "seam 0 0 0;pace 0;q", 1, 18);
        isFault(0, "seam 0 0 0;pace 0;", 2, 5);
        isFault(0, Tape.times(SEAM, 10) + "seam", 1, 114);
        isFault(1, Tape.times("day;", 41) + "#", 1, 164);
        isFault(0, "after 0 1;pace", 1, 14);
        isFault(2, "away 0 1 0", 1, 10);
        isFault(3, "at 9 9;at 9", 1, 11);
    }

    static void p5_theFirstOfOne() {
        isFault(1, "day;q;#", 1, 4);
        isFault(1, "day 1;q", 1, 4);
        isFault(1, "#q", 1, 0);
        isFault(1, "sew 1 100;#", 1, 6);
        isFault(1, "sew 100 q", 1, 4);
    }

    static void p5_theFirstOfTwoByPlace() {
        isFault(0, "seam 0 4 10;", 2, 5);
        isFault(0, "seam 1 4 10;", 2, 7);
        isFault(0, "seam 1 3 10;", 2, 9);
        isFault(2, "wearer 10 10 31 0;", 2, 7);
        isFault(2, "wearer 9 10 31 0;", 2, 9);
        isFault(2, "wearer 9 9 31 0;", 2, 11);
        isFault(0, "pace 1;pace 0;pace 0;", 2, 12);
        isFault(2, "away 6 2 1;", 2, 5);
    }

    static void p5_twoAndThreeByPlace() {
        isFault(0, Tape.times(SEAM, 9) + "pace 0;" + SEAM, 2, 104);
        isFault(0, Tape.times(SEAM, 10) + "pace 0;", 3, 99);
        isFault(0, Tape.times(SEAM, 9) + "seam 0 4 10;", 3, 99);
        isFault(1, "sew 9;" + Tape.times("day;", 40), 2, 4);
        isFault(1, Tape.times("day;", 40) + "sew 9;", 3, 160);
        isFault(2, "speed 0;" + Tape.times(WEARER, 7), 2, 6);
        isFault(2, Tape.times(WEARER, 6) + "wearer 10 0 0 0;", 3, 90);
        isFault(3, "at 9 0;" + Tape.times("at 0 0;", 10), 2, 3);
        isFault(3, Tape.times("at 0 0;", 10) + "at 9 0;", 3, 70);
        isFault(3, Tape.times("at 0 0;", 10) + "before 9 9;", 3, 70);
    }

    static void p5_aSeamToldOfMustBeThere() {
        for (int s = 1; s < 9; s++) {
            String of = "after 0 " + s + ";";
            String by = "after " + s + " 0;";
            isFault(0, of + Tape.times(SEAM, s), 4, 10 + 11 * s);
            isFault(0, by + Tape.times(SEAM, s), 4, 10 + 11 * s);
            isGood(0, of + Tape.times(SEAM, s + 1));
            isGood(0, by + Tape.times(SEAM, s + 1));
            isGood(0, Tape.times(SEAM, s + 1) + of);
        }
        isFault(0, "after 0 1;", 4, 10);
        isFault(0, "after 1 0;", 4, 10);
    }

    static void p5_aWearerToldOfMustBeThere() {
        for (int w = 0; w < 6; w++) {
            String away = "away " + w + " 1 1;";
            isFault(2, away + Tape.times(WEARER, w), 4, 11 + 15 * w);
            isFault(2, Tape.times(WEARER, w) + away, 4, 11 + 15 * w);
            isGood(2, away + Tape.times(WEARER, w + 1));
        }
        isFault(2, "away 1 1 1;away 0 1 1;" + WEARER, 4, 37);
    }

    static void p5_deedsAndFactsMayTellOfSeamsThatAreNotThere() {
        isGood(1, "sew 8;unpick 8;tear 8;");
        isGood(3, "before 8 7;at 8 8;not 8 8;");
    }

    static void p5_missingOnesAreToldBehindAllOthers() {
        isFault(0, "after 0 1;pace 0;", 2, 15);
        isFault(0, "after 0 8;" + Tape.times(SEAM, 8) + "pace 10;", 2, 103);
        isFault(2, "away 5 1 1;speed 0;", 2, 17);
        isFault(2, "away 0 1 1;" + "speed", 1, 16);
    }

    static void p5_theEndsPlace() {
        isFault(0, "after 0 1; \n", 4, 12);
        isFault(1, "day \n", 1, 5);
        isFault(0, "after 0 1;" + Tape.times(" ", 590), 4, 600);
        isFault(1, "day" + Tape.times(" ", 597), 1, 600);
        isFault(1, Tape.times(" ", 597) + "day", 1, 600);
    }

    static void p5_theLastByteOfTheTape() {
        isFault(1, Tape.times(" ", 599) + "#", 1, 599);
        isFault(1, Tape.times(" ", 599) + ";", 1, 599);
        isFault(1, Tape.times(" ", 599) + "z", 1, 599);
        isFault(1, Tape.times(" ", 594) + "grow1;", 0, NONE);
        isFault(1, Tape.times(" ", 594) + "grow0;", 2, 598);
        isFault(1, Tape.times(" ", 596) + "days", 1, 596);
    }
}
