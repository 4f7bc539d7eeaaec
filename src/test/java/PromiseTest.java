/** What each promise says, by examples worked out by hand: ordinary ones, edges, wrong inputs. */
public final class PromiseTest {
    private static final int NONE = SewnYear.NONE;
    private static final int LOW = Integer.MIN_VALUE;
    private static final int HIGH = Integer.MAX_VALUE;

    static final String COAT = "seam 3 0 2;seam 2 1 0;seam 4 0 5;seam 1 1 1;after 2 0;after 3 1;after 3 2;"
        + "pace 2;grows 0 1;grows 2 2;grows 3 1;";
    static final String LIFE = "sew 1;sew 1;day;sew 0;sew 0;grow 1;day;sew 0;sew 2;shrink 2;unpick 2;tear 1;";
    static final String TOWN = "tailor 0 0;speed 3;miles 2;wearer 2 0 6 5;wearer 0 4 3 2;wearer 3 3 4 9;away 1 0 2;";
    static final String SIGHT = "not 1 0;before 1 2;";
    static final String RING = "seam 1 0 0;seam 1 0 0;after 0 1;after 1 0;";

    public static void main(String[] args) {
        newObject();
        feedAndEnd();
        text();
        images();
        coat();
        life();
        state();
        bursting();
        orders();
        sewn();
        ring();
        empties();
        parted();
        under();
        handsAndSpools();
        grown();
        town();
        away();
        rounds();
        lastOfFirst();
        home();
        cloth();
        sight();
        drawn();
        Due.end();
    }

    private static SewnYear all() {
        SewnYear x = new SewnYear();
        Due.is("text coat", Tape.tell(x, 0, COAT), 0);
        Due.is("text life", Tape.tell(x, 1, LIFE), 0);
        Due.is("text town", Tape.tell(x, 2, TOWN), 0);
        Due.is("text sight", Tape.tell(x, 3, SIGHT), 0);
        return x;
    }

    private static void newObject() {
        SewnYear x = new SewnYear();
        Due.is("NONE", SewnYear.NONE, -1);
        for (int sort = 0; sort < 4; sort++) {
            Due.is("count", x.count(sort), 0);
        }
        Due.is("count -1", x.count(-1), -2);
        Due.is("count 4", x.count(4), -2);
        Due.is("fault 0", x.fault(0), 0);
        Due.is("fault 1", x.fault(1), NONE);
        Due.is("fault 2", x.fault(2), NONE);
        Due.is("fault -1", x.fault(-1), NONE);
        for (int k = -1; k < 4; k++) {
            Due.is("again", x.again(k), false);
        }
        Due.is("coat", x.coat(0, 0), NONE);
        Due.is("deed", x.deed(0, NONE, 0), -2);
        Due.is("stop", x.stop(0, 0), NONE);
        Due.is("state", x.state(0, 0, 0, 0), -1000);
        Due.is("orders", x.orders(0), NONE);
        Due.is("order", x.order(0, 0, 0), NONE);
        Due.is("sewn", x.sewn(0, 0), NONE);
        Due.is("parted", x.parted(0, 0, 1, false), NONE);
        Due.is("town", x.town(0, 0), -2);
        Due.is("done", x.done(0, 0, 1, 0), NONE);
        Due.is("rounds", x.rounds(0, 0), NONE);
        Due.is("fact", x.fact(0, NONE, 0), -2);
        Due.is("fits", x.fits(0, 0, NONE, NONE), NONE);
        Due.is("sure", x.sure(0, 0, NONE), NONE);
        Due.is("drawn", x.drawn(0, 1, 0, 0), -1000);
        Due.is("under", x.under(0, 0, 0), NONE);
        Due.is("hands", x.hands(0, 1), NONE);
        Due.is("spools", x.spools(0, 10), NONE);
        Due.is("grown", x.grown(0, 0), NONE);
        Due.is("home", x.home(0, false), NONE);
        Due.is("way", x.way(0, 0, 0), NONE);
    }

    private static void feedAndEnd() {
        SewnYear x = new SewnYear();
        for (int n = 20; n <= 600; n += 20) {
            Due.is("feed", x.feed(0, 0, 0, 0, 0), n);
        }
        Due.is("feed of too many", x.feed(0, 0, 0, 0, 0), NONE);
        Due.is("end 601", x.end(601), NONE);
        Due.is("end 600", x.end(600), 600);
        Due.is("end -1", x.end(-1), NONE);
        Due.is("end 581", x.end(581), 581);
        Due.is("feed of one too many", x.feed(0, 0, 0, 0, 0), NONE);
        Due.is("end 582", x.end(582), NONE);
        Due.is("end 580", x.end(580), 580);
        Due.is("feed up to 600", x.feed(0, 0, 0, 0, 0), 600);
        Due.is("end 0", x.end(0), 0);
        Due.is("feed again", x.feed(0x64617920, 0x3b736577, 0x20313b67, 0x726f7720, 0x00ff393b), 20);
        Due.is("a byte that is none", x.text(1, NONE), NONE);
        Due.is("its fault", x.fault(0), 1);
        Due.is("its place", x.fault(1), 16);
        Due.is("end of the empty", x.end(1), NONE);
        Due.is("feed the highest first", x.feed(0x64617920, 0x3b736577, 0x20313b67, 0x726f7720, 0x200a393b), 20);
        Due.is("text", x.text(1, NONE), 0);
        Due.is("deeds", x.deed(0, NONE, 0), 3);
        Due.is("deed 2", x.deed(0, 2, 1), 9);
    }

    private static void faultOf(int sort, String text, int fault, int place) {
        SewnYear x = new SewnYear();
        int got = Tape.tell(x, sort, text);
        Due.is(sort + " '" + text + "'", got, fault == 0 ? 0 : NONE);
        Due.is(sort + " '" + text + "' fault", x.fault(0), fault);
        Due.is(sort + " '" + text + "' place", x.fault(1), place);
        Due.is(sort + " '" + text + "' count", x.count(sort), fault == 0 ? 1 : 0);
        Due.is(sort + " '" + text + "' tape", x.end(1), NONE);
    }

    private static void text() {
        for (int sort = 0; sort < 4; sort++) {
            faultOf(sort, "", 0, NONE);
            faultOf(sort, " \n ", 0, NONE);
            faultOf(sort, ";", 1, 0);
            faultOf(sort, " 7", 1, 1);
            faultOf(sort, "q;", 1, 0);
            faultOf(sort, "\t", 1, 0);
            faultOf(sort, "\u00e9", 1, 0);
        }
        faultsOfForm();
        faultsOfNumbers();
        faultsOfMany();
        faultsOfMissing();
        whichText();
    }

    private static void faultsOfForm() {
        faultOf(0, "seam 1 0 0;", 0, NONE);
        faultOf(0, " seam1 0\n0 ; ", 0, NONE);
        faultOf(0, "seam 01 00 09;", 0, NONE);
        faultOf(0, "seam 1 0 0", 1, 10);
        faultOf(0, "seam 1 0 0  ", 1, 12);
        faultOf(0, "seam 1 0;", 1, 8);
        faultOf(0, "seam 1 0 0 0;", 1, 11);
        faultOf(0, "seam 1 0 100;", 1, 9);
        faultOf(0, "seam 001 0 0;", 1, 5);
        faultOf(0, "seams 1 0 0;", 1, 0);
        faultOf(0, "seamz 1 0 0;", 1, 0);
        faultOf(0, "seama 1 0 0;", 1, 0);
        faultOf(0, "sea m 1 0 0;", 1, 0);
        faultOf(0, "Seam 1 0 0;", 1, 0);
        faultOf(0, "seam 1 0 0;sew 1;", 1, 11);
        faultOf(0, "seam 1 0 0;;", 1, 11);
        faultOf(0, "seam 1 0-0;", 1, 8);
        faultOf(0, "seam 1 0 x;", 1, 9);
        faultOf(0, "pace", 1, 4);
        faultOf(0, "pace 1 1;", 1, 7);
        faultOf(0, "after 1;", 1, 7);
        faultOf(1, "day;day", 1, 7);
        faultOf(1, "day 1;", 1, 4);
        faultOf(1, "day1;", 1, 3);
        faultOf(1, "grows 1 1;", 1, 0);
        faultOf(1, "sew;", 1, 3);
        faultOf(2, "tailor 1;", 1, 8);
        faultOf(2, "wearer 1 1 1;", 1, 12);
        faultOf(2, "away 1 1;", 1, 8);
        faultOf(3, "before 1;", 1, 8);
        faultOf(3, "at 1 1 1;", 1, 7);
        faultOf(0, "seam 0 0 0;pace", 1, 15);
    }

    private static void faultsOfNumbers() {
        faultOf(0, "seam 0 0 0;", 2, 5);
        faultOf(0, "seam 10 0 0;", 2, 5);
        faultOf(0, "seam 1 4 0;", 2, 7);
        faultOf(0, "seam 1 0 10;", 2, 9);
        faultOf(0, "seam 9 3 9;", 0, NONE);
        faultOf(0, "seam 1 4 10;", 2, 7);
        faultOf(0, "after 0 0;", 2, 8);
        faultOf(0, "after 9 9;", 2, 6);
        faultOf(0, "after 0 9;", 2, 8);
        faultOf(0, "grows 0 10;", 2, 8);
        faultOf(0, "grows 99 9;", 0, NONE);
        faultOf(0, "pace 0;", 2, 5);
        faultOf(0, "pace 10;", 2, 5);
        faultOf(0, "pace 9;", 0, NONE);
        faultOf(1, "sew 9;", 2, 4);
        faultOf(1, "unpick 9;", 2, 7);
        faultOf(1, "tear 9;", 2, 5);
        faultOf(1, "sew 8;unpick 8;tear 8;", 0, NONE);
        faultOf(1, "grow 0;", 2, 5);
        faultOf(1, "grow 10;", 2, 5);
        faultOf(1, "shrink 0;", 2, 7);
        faultOf(1, "shrink 10;", 2, 7);
        faultOf(2, "speed 0;", 2, 6);
        faultOf(2, "speed 10;", 2, 6);
        faultOf(2, "miles 0;", 2, 6);
        faultOf(2, "miles 10;", 2, 6);
        faultOf(2, "tailor 10 0;", 2, 7);
        faultOf(2, "tailor 0 10;", 2, 9);
        faultOf(2, "wearer 10 0 1 0;", 2, 7);
        faultOf(2, "wearer 0 10 1 0;", 2, 9);
        faultOf(2, "wearer 0 0 0 0;", 2, 11);
        faultOf(2, "wearer 0 0 31 0;", 2, 11);
        faultOf(2, "wearer 9 9 30 99;", 0, NONE);
        faultOf(2, "away 6 1 1;", 2, 5);
        faultOf(2, "away 0 1 0;", 2, 9);
        faultOf(3, "before 0 0;", 2, 9);
        faultOf(3, "before 9 0;", 2, 7);
        faultOf(3, "at 9 0;", 2, 3);
        faultOf(3, "at 0 9;", 2, 5);
        faultOf(3, "not 9 0;", 2, 4);
        faultOf(3, "not 0 9;", 2, 6);
        faultOf(3, "at 8 8;not 8 8;before 8 7;", 0, NONE);
    }

    private static void faultsOfMany() {
        String seam = "seam 1 0 0;";
        String wearer = "wearer 0 0 1 0;";
        faultOf(0, Tape.times(seam, 9), 0, NONE);
        faultOf(0, Tape.times(seam, 10), 3, 99);
        faultOf(0, Tape.times(seam, 9) + "seam 0 0 0;", 3, 99);
        faultOf(0, "seam 0 0 0;" + Tape.times(seam, 9), 2, 5);
        faultOf(0, Tape.times(seam, 8) + "pace 0;" + Tape.times(seam, 2), 2, 93);
        faultOf(0, Tape.times(seam, 10) + "pace 0;", 3, 99);
        faultOf(0, Tape.times(seam, 10) + "pace", 1, 114);
        faultOf(1, Tape.times("day;", 40), 0, NONE);
        faultOf(1, Tape.times("day;", 41), 3, 160);
        faultOf(1, Tape.times("sew 1;", 40) + " sew 9;", 3, 241);
        faultOf(1, Tape.times("day;", 150), 3, 160);
        faultOf(2, Tape.times(wearer, 6), 0, NONE);
        faultOf(2, Tape.times(wearer, 7), 3, 90);
        faultOf(3, Tape.times("at 0 0;", 10), 0, NONE);
        faultOf(3, Tape.times("at 0 0;", 11), 3, 70);
    }

    private static void faultsOfMissing() {
        faultOf(0, "after 0 1;", 4, 10);
        faultOf(0, "after 0 1;seam 1 0 0;", 4, 21);
        faultOf(0, "after 0 1;seam 1 0 0;seam 1 0 0;", 0, NONE);
        faultOf(0, "after 1 0;seam 1 0 0;  ", 4, 23);
        faultOf(0, "after 1 0;seam 1 0 0;pace 0;", 2, 26);
        faultOf(2, "away 0 1 1;", 4, 11);
        faultOf(2, "away 0 1 1;wearer 0 0 1 0;", 0, NONE);
        faultOf(2, "away 1 1 1;wearer 0 0 1 0;", 4, 26);
        faultOf(2, "away 1 1 1;away 0 1 1;wearer 0 0 1 0;", 4, 37);
    }

    private static void whichText() {
        SewnYear x = new SewnYear();
        Due.is("in the place of none", Tape.tell(x, 0, 0, "seam 1 0 0;"), -2);
        Due.is("tape", x.end(1), NONE);
        Due.is("first", Tape.tell(x, 0, NONE, "seam 1 0 0;"), 0);
        Due.is("second", Tape.tell(x, 0, NONE, "seam 2 0 0;"), 1);
        Due.is("a faulty one", Tape.tell(x, 0, 1, "seam 3 0 0;pace 0;"), NONE);
        Due.is("fault", x.fault(0), 2);
        Due.is("place", x.fault(1), 16);
        Due.is("left", x.coat(1, 10), 2);
        Due.is("third", Tape.tell(x, 0, NONE, "q"), -2);
        Due.is("no text is read", x.fault(0), 0);
        Due.is("no place", x.fault(1), NONE);
        Due.is("tape", x.end(1), NONE);
        Due.is("in the place of the second", Tape.tell(x, 0, 1, "pace 4;"), 1);
        Due.is("no SEAMS of the one before", x.coat(1, 0), 0);
        Due.is("its pace", x.coat(1, 1), 4);
        Due.is("the first", x.coat(0, 10), 1);
        Due.is("of none", Tape.tell(x, 0, 2, ""), -2);
        Due.is("below", Tape.tell(x, 0, -2, ""), -2);
        Due.is("sort 4", Tape.tell(x, 4, NONE, "q"), -2);
        Due.is("sort -1", Tape.tell(x, -1, 0, "q"), -2);
        Due.is("tape", x.end(1), NONE);
        Due.is("coats", x.count(0), 2);
        Due.is("lives", x.count(1), 0);
        Due.is("an empty tape", x.text(1, NONE), 0);
        Due.is("lives", x.count(1), 1);
        Due.is("deeds", x.deed(0, NONE, 0), 0);
    }

    private static void images() {
        SewnYear x = all();
        Tape.tell(x, 0, "seam 0 0 0;");
        Tape.put(x, "day;");
        Due.is("image", x.image(0), true);
        Due.is("image 3", x.image(3), false);
        Due.is("image -1", x.image(-1), false);
        Due.is("again 1", x.again(1), false);
        Due.is("a life", x.text(1, 0), 0);
        Tape.tell(x, 0, 0, "");
        Tape.tell(x, 2, "");
        Tape.tell(x, 3, 0, "");
        Due.is("image 2", x.image(2), true);
        Due.is("again", x.again(0), true);
        Due.is("fault", x.fault(0), 2);
        Due.is("place", x.fault(1), 5);
        Due.is("towns", x.count(2), 1);
        Due.is("orders", x.orders(0), 3);
        Due.is("facts", x.fact(0, NONE, 0), 2);
        Due.is("deeds", x.deed(0, NONE, 0), 12);
        Due.is("the tape", x.text(1, 0), 0);
        Due.is("deeds", x.deed(0, NONE, 0), 1);
        Due.is("again 2", x.again(2), true);
        Due.is("towns", x.count(2), 2);
        Due.is("fault", x.fault(0), 0);
        Due.is("orders", x.orders(0), 1);
        Due.is("again, the image is still there", x.again(0), true);
        Due.is("deeds", x.deed(0, NONE, 0), 12);
        Due.is("again 3", x.again(3), false);
        Due.is("again -1", x.again(-1), false);
    }

    private static void coat() {
        SewnYear x = all();
        int[][] due = {{0, 4}, {1, 2}, {10, 3}, {11, 2}, {12, 4}, {13, 1}, {20, 0}, {21, 1}, {22, 0}, {23, 1},
            {30, 2}, {31, 0}, {32, 5}, {33, 1}, {40, 0}, {41, 0}, {42, 1}, {43, 6}, {100, 1}, {101, 0}, {102, 2},
            {103, 1}, {199, 0}, {200, NONE}, {14, NONE}, {24, NONE}, {34, NONE}, {44, NONE}, {50, NONE}, {2, NONE},
            {9, NONE}, {99, NONE}, {-1, NONE}, {-10, NONE}, {LOW, NONE}, {HIGH, NONE}, {210, NONE}, {110, 0}};
        for (int[] d : due) {
            Due.is("coat " + d[0], x.coat(0, d[0]), d[1]);
        }
        Due.is("coat 1", x.coat(1, 0), NONE);
        Due.is("coat -1", x.coat(-1, 0), NONE);
        Tape.tell(x, 0, "pace 3;pace 5;grows 7 2;grows 99 9;grows 7 4;seam 9 3 9;seam 1 0 0;seam 2 0 0;"
            + "after 2 0;after 2 1;after 2 0;");
        Due.is("later pace", x.coat(1, 1), 5);
        Due.is("later growth", x.coat(1, 107), 4);
        Due.is("growth of 99", x.coat(1, 199), 9);
        Due.is("further after", x.coat(1, 42), 3);
        Tape.tell(x, 0, 1, "");
        Due.is("pace at first", x.coat(1, 1), 1);
        Due.is("growth at first", x.coat(1, 107), 0);
    }

    private static void life() {
        SewnYear x = all();
        Due.is("deeds", x.deed(0, NONE, 0), 12);
        Due.is("deeds, other what", x.deed(0, NONE, 1), -2);
        Due.is("deed -2", x.deed(0, -2, 0), -2);
        Due.is("deed 12", x.deed(0, 12, 0), -2);
        Due.is("deed, what 2", x.deed(0, 0, 2), -2);
        Due.is("deed, what -1", x.deed(0, 0, -1), -2);
        Due.is("life 1", x.deed(1, NONE, 0), -2);
        Due.is("life -1", x.deed(-1, NONE, 0), -2);
        int[] kinds = {0, 0, 5, 0, 0, 3, 5, 0, 0, 4, 1, 2};
        int[] numbers = {1, 1, NONE, 0, 0, 1, NONE, 0, 2, 2, 2, 1};
        for (int k = 0; k < 12; k++) {
            Due.is("kind " + k, x.deed(0, k, 0), kinds[k]);
            Due.is("number " + k, x.deed(0, k, 1), numbers[k]);
        }
        Due.is("stop", x.stop(0, 0), 11);
        Due.is("stop of no coat", x.stop(1, 0), NONE);
        Due.is("stop of no life", x.stop(0, 1), NONE);
        Due.is("stop -1", x.stop(-1, -1), NONE);
        Tape.tell(x, 1, "day;day;");
        Due.is("stop behind all", x.stop(0, 1), 2);
        stopOf(x, "sew 3;", 0);
        stopOf(x, "sew 4;", 0);
        stopOf(x, "sew 8;", 0);
        stopOf(x, "sew 0;sew 0;sew 0;", 2);
        stopOf(x, "sew 1;sew 1;day;sew 1;", 3);
        stopOf(x, "unpick 0;", 0);
        stopOf(x, "unpick 7;", 0);
        stopOf(x, "tear 0;", 0);
        stopOf(x, "tear 7;", 0);
        stopOf(x, "sew 0;unpick 0;unpick 0;", 2);
        stopOf(x, "sew 0;sew 0;day;sew 0;sew 2;unpick 0;", 5);
        stopOf(x, "sew 0;sew 0;day;sew 0;sew 2;tear 0;", 6);
        stopOf(x, "sew 0;sew 0;day;sew 0;sew 2;tear 0;day;sew 2;", 7);
        stopOf(x, "sew 0;sew 0;tear 0;sew 0;", 3);
        stopOf(x, Tape.times("day;", 40), 40);
    }

    private static void stopOf(SewnYear x, String life, int stop) {
        Tape.tell(x, 1, 1, life);
        Due.is("stop of '" + life + "'", x.stop(0, 1), stop);
    }

    private static void stateIs(SewnYear x, int n, int... due) {
        for (int what = 0; what < due.length; what++) {
            Due.is("state " + n + " what " + what, x.state(0, 0, n, what), due[what]);
        }
    }

    private static void state() {
        SewnYear x = all();
        stateIs(x, 0, 0, 1, 0, 0, 0, 0);
        stateIs(x, 1, 0, 1, 1, 0, 0, 0);
        stateIs(x, 2, 0, 1, 2, 0, 0, 2);
        stateIs(x, 3, 1, 1, 0, 0, 0, 2);
        stateIs(x, 5, 1, 1, 2, 0, 0, 2);
        stateIs(x, 6, 1, 2, 2, 1, 2, 0);
        stateIs(x, 7, 2, 4, 0, 1, 2, 0);
        stateIs(x, 8, 2, 4, 1, 1, 2, 1);
        stateIs(x, 9, 2, 4, 2, 1, 2, 1);
        stateIs(x, 10, 2, 2, 2, 1, 2, 1);
        stateIs(x, 11, 2, 2, 2, 1, 3, 1);
        Due.is("stitches", x.state(0, 0, 2, 11), 2);
        Due.is("fits", x.state(0, 0, 2, 21), 1);
        Due.is("not whole", x.state(0, 0, 2, 20), -1000);
        Due.is("burst", x.state(0, 0, 6, 11), 0);
        Due.is("burst fits none", x.state(0, 0, 6, 21), -1000);
        Due.is("stitches", x.state(0, 0, 11, 10), 3);
        Due.is("fits", x.state(0, 0, 11, 20), 4);
        Due.is("behind what", x.state(0, 0, 11, 30), -1000);
        Due.is("unpicked", x.state(0, 0, 10, 12), 1);
        Due.is("unpicked", x.state(0, 0, 11, 12), 0);
        Due.is("behind stop", x.state(0, 0, 12, 0), -1000);
        Due.is("behind all", x.state(0, 0, 13, 0), -1000);
        Due.is("n below 0", x.state(0, 0, -1, 0), -1000);
        for (int what : new int[] {-1, 6, 9, 14, 18, 19, 24, 29, 30, 100, LOW, HIGH}) {
            Due.is("state what " + what, x.state(0, 0, 0, what), -1000);
        }
        Due.is("no coat", x.state(1, 0, 0, 0), -1000);
        Due.is("no life", x.state(0, 1, 0, 0), -1000);
        Tape.tell(x, 1, 0, Tape.times("shrink 9;", 40));
        Due.is("girth below 0", x.state(0, 0, 40, 1), -359);
        Tape.tell(x, 1, 0, Tape.times("day;", 40));
        Due.is("day 40", x.state(0, 0, 40, 0), 40);
        Due.is("girth", x.state(0, 0, 40, 1), 4);
    }

    private static void bursting() {
        SewnYear x = new SewnYear();
        Tape.tell(x, 0, "seam 3 0 1;seam 2 0 0;after 1 0;pace 9;grows 1 2;");
        Tape.tell(x, 1, "sew 0;sew 0;sew 0;sew 1;sew 1;grow 1;day;shrink 9;sew 0;tear 0;");
        Due.is("stop", x.stop(0, 0), 10);
        stateIs(x, 5, 0, 0, 5, 0, 0, 3);
        stateIs(x, 6, 0, 1, 5, 1, 2, 1);
        stateIs(x, 7, 1, 3, 0, 2, 5, 0);
        stateIs(x, 9, 1, -6, 1, 2, 5, 0);
        stateIs(x, 10, 1, -6, 1, 2, 6, 0);
        Tape.tell(x, 1, 0, "sew 0;sew 0;sew 0;unpick 0;sew 0;unpick 0;unpick 0;shrink 3;sew 0;sew 0;sew 0;");
        Due.is("stop", x.stop(0, 0), 6);
        Tape.tell(x, 1, 0, "sew 0;sew 0;sew 0;unpick 0;sew 0;unpick 0;shrink 3;sew 0;sew 0;sew 0;");
        Due.is("stop", x.stop(0, 0), 10);
        stateIs(x, 4, 0, 0, 3, 0, 2, 0);
        stateIs(x, 6, 0, 0, 4, 0, 4, 0);
        Due.is("fits below 0", x.state(0, 0, 10, 20), -3);
    }

    private static void row(SewnYear x, int coat, int what, int... due) {
        for (int k = 0; k < due.length; k++) {
            Due.is("order " + k + " what " + what, x.order(coat, k, what), due[k]);
        }
    }

    private static void orders() {
        SewnYear x = all();
        Due.is("orders", x.orders(0), 3);
        Due.is("orders 1", x.orders(1), NONE);
        Due.is("orders -1", x.orders(-1), NONE);
        row(x, 0, 0, 0, 1, 2, 3, NONE);
        row(x, 0, 1, 0, 0, 1, 3, NONE);
        row(x, 0, 2, 1, 2, 2, 3, NONE);
        row(x, 0, 3, 0, 2, 1, 3, NONE);
        row(x, 0, 4, 0, 2, 1, 3, NONE);
        row(x, 0, 5, NONE);
        row(x, 0, -1, NONE);
        Due.is("order -1", x.order(0, -1, 0), NONE);
        Due.is("order of none", x.order(1, 0, 0), NONE);
        Tape.tell(x, 0, Tape.times("seam 9 0 0;", 9));
        Due.is("all orders", x.orders(1), 362880);
        Due.is("late", x.order(1, 8, 2), 8);
        Due.is("early", x.order(1, 8, 1), 0);
        Tape.tell(x, 0, 1, "seam 1 2 0;seam 1 1 0;seam 1 2 0;after 0 1;");
        row(x, 1, 0, 1, 0, 2);
        row(x, 1, 4, 1, 0, 2);
        Tape.tell(x, 0, 1, "seam 1 2 0;seam 1 1 0;seam 1 2 0;");
        row(x, 1, 0, 0, 1, 2);
        row(x, 1, 4, 0, 2, 1);
    }

    private static void sewn() {
        SewnYear x = all();
        Due.is("LEAST", x.sewn(0, 0), 1);
        Due.is("THREADS", x.sewn(0, 1), 1);
        Due.is("CHAIN", x.sewn(0, 2), 8);
        Due.is("TEAM", x.sewn(0, 3), 5);
        Due.is("what 4", x.sewn(0, 4), NONE);
        Due.is("what -1", x.sewn(0, -1), NONE);
        Due.is("no coat", x.sewn(1, 0), NONE);
        Tape.tell(x, 0, "seam 1 0 9;seam 1 0 8;grows 99 9;");
        Due.is("ease as growth", x.sewn(1, 0), 1);
        Tape.tell(x, 0, 1, "seam 1 0 0;grows 0 9;");
        Due.is("growth of its own day", x.sewn(1, 0), 0);
        Tape.tell(x, 0, 1, "seam 1 0 0;grows 1 1;");
        Due.is("growth of the day behind", x.sewn(1, 0), 1);
        Tape.tell(x, 0, 1, Tape.times("seam 9 0 0;", 9) + "grows 80 9;");
        Due.is("the last on day 80", x.sewn(1, 0), 8);
        Due.is("chain of one", x.sewn(1, 2), 9);
        Due.is("team of nine", x.sewn(1, 3), 9);
    }

    private static void ring() {
        SewnYear x = new SewnYear();
        Tape.tell(x, 0, RING);
        Tape.tell(x, 3, "");
        Tape.tell(x, 1, "sew 0;");
        Due.is("orders", x.orders(0), 0);
        row(x, 0, 0, NONE, NONE);
        row(x, 0, 1, NONE, NONE);
        row(x, 0, 3, NONE, NONE);
        row(x, 0, 4, NONE, NONE);
        for (int what = 0; what < 4; what++) {
            Due.is("sewn", x.sewn(0, what), NONE);
        }
        Due.is("under", x.under(0, 0, 0), NONE);
        Due.is("soonest", x.under(0, 0, 1), NONE);
        Due.is("hands", x.hands(0, 1), NONE);
        Due.is("parted: one couple", x.parted(0, 0, 1, false), 1);
        Due.is("parted side", x.parted(0, 1, 0, true), 2);
        Due.is("spools", x.spools(0, 2), 1);
        Due.is("grown", x.grown(0, 1), NONE);
        Due.is("fits", x.fits(0, 0, NONE, NONE), 0);
        Due.is("holds", x.fits(0, 0, 0, 0), 0);
        Due.is("sure", x.sure(0, 0, 0), NONE);
        Due.is("ask", x.sure(0, 0, NONE), NONE);
        Due.is("stop", x.stop(0, 0), 0);
        Due.is("drawn", x.drawn(0, 5, 60, 5), 0);
    }

    private static void empties() {
        SewnYear x = new SewnYear();
        for (int sort = 0; sort < 4; sort++) {
            Due.is("empty text", x.text(sort, NONE), 0);
        }
        Due.is("orders", x.orders(0), 1);
        Due.is("order", x.order(0, 0, 0), NONE);
        for (int what = 0; what < 4; what++) {
            Due.is("sewn", x.sewn(0, what), 0);
        }
        Due.is("hands", x.hands(0, 4), 0);
        Due.is("spools", x.spools(0, 1), 0);
        Due.is("fits", x.fits(0, 0, NONE, NONE), 1);
        Due.is("sure", x.sure(0, 0, 0), NONE);
        Due.is("ask", x.sure(0, 0, NONE), NONE);
        Due.is("under", x.under(0, 0, 0), NONE);
        Due.is("wearers", x.town(0, 0), 0);
        Due.is("speed", x.town(0, 1), 3);
        Due.is("miles", x.town(0, 2), 2);
        Due.is("x", x.town(0, 3), 0);
        Due.is("y", x.town(0, 4), 0);
        Due.is("most", x.rounds(0, 0), 0);
        for (int what : new int[] {1, 2, 3, 10, 20}) {
            Due.is("rounds " + what, x.rounds(0, what), NONE);
        }
        Due.is("home", x.home(0, false), NONE);
        Due.is("home place", x.home(0, true), NONE);
        Due.is("done", x.done(0, 0, 1, 0), NONE);
        Due.is("state", x.state(0, 0, 0, 1), 0);
        Due.is("drawn", x.drawn(0, 1, 60, 5), 0);
    }

    private static void parted() {
        SewnYear x = all();
        Due.is("parted 0 3", x.parted(0, 0, 3, false), 1);
        Due.is("side 0 3", x.parted(0, 0, 3, true), 1);
        Due.is("parted 3 0", x.parted(0, 3, 0, false), 1);
        Due.is("side 3 0", x.parted(0, 3, 0, true), 10);
        Due.is("side 2 1", x.parted(0, 2, 1, true), 5);
        for (int[] two : new int[][] {{0, 0}, {0, 4}, {4, 0}, {-1, 0}, {0, -1}, {LOW, HIGH}}) {
            Due.is("parted", x.parted(0, two[0], two[1], false), NONE);
            Due.is("side", x.parted(0, two[0], two[1], true), NONE);
        }
        Due.is("no coat", x.parted(1, 0, 1, false), NONE);
        Tape.tell(x, 0, Tape.times("seam 1 0 0;", 9));
        Due.is("untied", x.parted(1, 8, 0, false), 0);
        Due.is("untied side", x.parted(1, 8, 0, true), 256);
    }

    private static void under() {
        SewnYear x = all();
        int[] bits = {12, 8, 8, 0};
        int[] days = {1, 0, 3, 4};
        for (int s = 0; s < 4; s++) {
            Due.is("under " + s, x.under(0, s, 0), bits[s]);
            Due.is("soonest " + s, x.under(0, s, 1), days[s]);
        }
        Due.is("what 2", x.under(0, 0, 2), NONE);
        Due.is("what -1", x.under(0, 0, -1), NONE);
        Due.is("seam 4", x.under(0, 4, 0), NONE);
        Due.is("seam -1", x.under(0, -1, 0), NONE);
        Due.is("coat 1", x.under(1, 0, 0), NONE);
    }

    private static void handsAndSpools() {
        SewnYear x = all();
        Due.is("hands 1", x.hands(0, 1), 6);
        Due.is("hands 2", x.hands(0, 2), 5);
        Due.is("hands 4", x.hands(0, 4), 5);
        Due.is("hands 0", x.hands(0, 0), NONE);
        Due.is("hands 5", x.hands(0, 5), NONE);
        Due.is("hands of none", x.hands(1, 1), NONE);
        Due.is("spools 3", x.spools(0, 3), NONE);
        Due.is("spools 4", x.spools(0, 4), 3);
        Due.is("spools 7", x.spools(0, 7), 2);
        Due.is("spools 60", x.spools(0, 60), 2);
        Due.is("spools 61", x.spools(0, 61), NONE);
        Due.is("spools 0", x.spools(0, 0), NONE);
        Due.is("spools of none", x.spools(1, 9), NONE);
        Tape.tell(x, 0, Tape.times("seam 9 0 0;", 9));
        Due.is("81 days", x.hands(1, 1), 81);
        Due.is("27 days", x.hands(1, 4), 27);
        Due.is("nine spools", x.spools(1, 9), 9);
        Tape.tell(x, 0, 1, "seam 6 2 0;seam 5 2 0;seam 5 2 0;seam 4 2 0;seam 4 3 0;");
        Due.is("two and one", x.spools(1, 10), 3);
    }

    private static void grown() {
        SewnYear x = all();
        int[][] due = {{0, 0}, {-5, 0}, {LOW, 0}, {1, 0}, {2, 2}, {3, 2}, {4, 3}, {5, NONE}, {HIGH, NONE}};
        for (int[] d : due) {
            Due.is("grown " + d[0], x.grown(0, d[0]), d[1]);
        }
        Due.is("grown of none", x.grown(1, 0), NONE);
        Tape.tell(x, 0, "grows 99 9;");
        Due.is("on the last day", x.grown(1, 9), 99);
    }

    private static void town() {
        SewnYear x = all();
        int[][] due = {{0, 3}, {1, 3}, {2, 2}, {3, 0}, {4, 0}, {10, 2}, {11, 0}, {12, 3}, {20, 0}, {21, 4}, {22, 3},
            {30, 6}, {31, 3}, {32, 4}, {40, 5}, {41, 2}, {42, 9}, {50, NONE}, {51, 0}, {52, NONE}, {60, NONE}, {61, 2},
            {13, -2}, {43, -2}, {53, -2}, {63, -2}, {70, -2}, {5, -2}, {-1, -2}, {LOW, -2}, {HIGH, -2}};
        for (int[] d : due) {
            Due.is("town " + d[0], x.town(0, d[0]), d[1]);
        }
        Due.is("town 1", x.town(1, 0), -2);
        Due.is("town -1", x.town(-1, 0), -2);
        Due.is("way 0 1", x.way(0, 0, 1), 3);
        Due.is("way 1 0", x.way(0, 1, 0), 3);
        Due.is("way 2 2", x.way(0, 2, 2), 0);
        Due.is("way 0 3", x.way(0, 0, 3), NONE);
        Due.is("way -1 0", x.way(0, -1, 0), NONE);
        Due.is("way of none", x.way(1, 0, 0), NONE);
        Tape.tell(x, 2, "tailor 1 2;speed 4;tailor 7 8;miles 5;speed 6;wearer 0 0 1 0;away 0 1 9;away 0 3 4;");
        int[][] later = {{1, 6}, {2, 5}, {3, 7}, {4, 8}, {50, 3}, {60, 4}};
        for (int[] d : later) {
            Due.is("later " + d[0], x.town(1, d[0]), d[1]);
        }
        done();
    }

    private static void done() {
        SewnYear x = all();
        int[] days = {2, 6, 9};
        for (int k = 0; k < 3; k++) {
            Due.is("done " + k, x.done(0, 13, 3, k), days[k]);
        }
        Due.is("one alone", x.done(0, 1, 1, 0), 3);
        Due.is("k 3", x.done(0, 13, 3, 3), NONE);
        Due.is("k -1", x.done(0, 13, 3, -1), NONE);
        Due.is("twice", x.done(0, 0, 2, 0), NONE);
        Due.is("not there", x.done(0, 3, 1, 0), NONE);
        Due.is("not there behind k", x.done(0, 3, 2, 0), NONE);
        Due.is("n 0", x.done(0, 0, 0, 0), NONE);
        Due.is("n 7", x.done(0, 0, 7, 0), NONE);
        Due.is("round 6", x.done(0, 6, 1, 0), NONE);
        Due.is("round 36", x.done(0, 37, 2, 0), NONE);
        Due.is("round -1", x.done(0, -1, 2, 0), NONE);
        Due.is("round HIGH", x.done(0, HIGH, 6, 0), NONE);
        Due.is("town 1", x.done(1, 0, 1, 0), NONE);
        Due.is("n LOW", x.done(0, 0, LOW, LOW), NONE);
    }

    private static void awayIs(String away, int last) {
        SewnYear x = new SewnYear();
        Tape.tell(x, 2, "miles 1;speed 2;wearer 3 0 5 9;" + away);
        Due.is(away, x.done(0, 0, 1, 0), last);
    }

    private static void away() {
        awayIs("", 5);
        awayIs("away 0 0 2;", 5);
        awayIs("away 0 0 3;", 6);
        awayIs("away 0 5 5;", 8);
        awayIs("away 0 6 9;", 5);
        awayIs("away 0 4 4;", 7);
        awayIs("away 0 0 99;", 102);
        SewnYear x = new SewnYear();
        Tape.tell(x, 2, "wearer 0 0 3 0;wearer 0 0 3 1;");
        Due.is("on day 0", x.done(0, 1, 2, 0), 0);
        Due.is("on the day behind", x.done(0, 1, 2, 1), 1);
        Due.is("both in time", x.rounds(0, 0), 2);
    }

    private static void rounds() {
        SewnYear x = all();
        int[][] due = {{0, 2}, {1, 9}, {2, 5}, {3, 7}, {10, 0}, {11, 2}, {12, NONE}, {20, 0}, {21, 2}, {22, 1},
            {23, NONE}, {16, NONE}, {19, NONE}, {26, NONE}, {29, NONE}, {30, NONE}, {4, NONE}, {9, NONE}, {-1, NONE},
            {-10, NONE}, {LOW, NONE}, {HIGH, NONE}};
        for (int[] d : due) {
            Due.is("rounds " + d[0], x.rounds(0, d[0]), d[1]);
        }
        Due.is("rounds of none", x.rounds(1, 0), NONE);
        Due.is("rounds of -1", x.rounds(-1, 0), NONE);
        Tape.tell(x, 2, Tape.times("wearer 0 0 1 5;", 6));
        Due.is("all six", x.rounds(1, 0), 6);
        Due.is("soon", x.rounds(1, 1), 5);
        for (int k = 0; k < 6; k++) {
            Due.is("most by numbers", x.rounds(1, 10 + k), k);
            Due.is("soon by numbers", x.rounds(1, 20 + k), k);
        }
        Tape.tell(x, 2, 1, "tailor 9 9;wearer 0 0 1 0;");
        Due.is("none in time", x.rounds(1, 0), 0);
        Due.is("none in time", x.rounds(1, 10), NONE);
        Due.is("late", x.rounds(1, 2), 9);
    }

    /** A ROUND that begins with another WEARER is better than the last one that begins with the first. */
    private static void lastOfFirst() {
        SewnYear x = new SewnYear();
        Tape.tell(x, 2, "speed 1;wearer 0 0 2 7;wearer 0 0 2 1;wearer 0 0 1 5;wearer 0 0 1 4;wearer 0 0 1 3;wearer 0 0 1 2;");
        int[] most = {1, 5, 4, 3, 2, 0};
        Due.is("most", x.rounds(0, 0), 6);
        Due.is("soon", x.rounds(0, 1), 7);
        Due.is("late", x.rounds(0, 2), 0);
        Due.is("guild", x.rounds(0, 3), 0);
        for (int k = 0; k < 6; k++) {
            Due.is("most " + k, x.rounds(0, 10 + k), most[k]);
            Due.is("soon " + k, x.rounds(0, 20 + k), k);
        }
    }

    private static void home() {
        SewnYear x = new SewnYear();
        Tape.tell(x, 2, "tailor 9 9;wearer 4 7 3 0;");
        Due.is("home at the one", x.home(0, false), 0);
        Due.is("its place", x.home(0, true), 74);
        Tape.tell(x, 2, "miles 9;wearer 4 7 3 0;away 0 0 0;");
        Due.is("a day's way is no loss", x.home(1, false), 1);
        Due.is("the least place", x.home(1, true), 2);
        Due.is("no town", x.home(2, true), NONE);
        Due.is("no town", x.home(-1, false), NONE);
        Due.is("the tailor is where he was", x.town(0, 3), 9);
    }

    private static void clothIs(int n, int p, int c, int d, long best, long up, long down) {
        SewnYear x = new SewnYear();
        Due.is("best", x.cloth(n, p, c, d, 0), best);
        Due.is("N", x.cloth(n, p, c, d, 1), up);
        Due.is("D", x.cloth(n, p, c, d, 2), down);
    }

    private static void cloth() {
        clothIs(2, 5, 2, 3, 1, 11, 4);
        clothIs(1, 5, 1, 3, 1, 1, 1);
        clothIs(1, 5, 1, 2, 0, 1, 1);
        clothIs(12, 0, 99, 99, 0, 0, 1);
        clothIs(12, 10, 99, 99, 0, 1188, 1);
        clothIs(12, 10, 98, 99, 12, 1176, 1);
        clothIs(12, 5, 0, 99, 12, 0, 1);
        clothIs(12, 1, 99, 99, 0, 594, 5);
        clothIs(0, 5, 1, 1, NONE, NONE, NONE);
        clothIs(13, 5, 1, 1, NONE, NONE, NONE);
        clothIs(1, -1, 1, 1, NONE, NONE, NONE);
        clothIs(1, 11, 1, 1, NONE, NONE, NONE);
        clothIs(1, 5, -1, 1, NONE, NONE, NONE);
        clothIs(1, 5, 100, 1, NONE, NONE, NONE);
        clothIs(1, 5, 1, -1, NONE, NONE, NONE);
        clothIs(1, 5, 1, 100, NONE, NONE, NONE);
        SewnYear x = new SewnYear();
        Due.is("what 3", x.cloth(1, 5, 1, 1, 3), NONE);
        Due.is("what -1", x.cloth(1, 5, 1, 1, -1), NONE);
        enoughIs(2, 5, 1, 3, 4);
        enoughIs(2, 5, 0, 1, 4);
        enoughIs(2, 5, 2, 1, 1);
        enoughIs(2, 5, 12, 1, 1);
        enoughIs(12, 10, 11, 0, 1);
        enoughIs(12, 0, 0, 1, 1);
        enoughIs(12, 1, 0, 282429536481L, 1000000000000L);
        enoughIs(2, 5, 13, NONE, NONE);
        enoughIs(2, 5, -1, NONE, NONE);
        enoughIs(0, 5, 0, NONE, NONE);
        enoughIs(13, 5, 0, NONE, NONE);
        enoughIs(2, 11, 0, NONE, NONE);
        enoughIs(2, -1, 0, NONE, NONE);
    }

    private static void enoughIs(int n, int p, int x, long up, long down) {
        SewnYear s = new SewnYear();
        Due.is("enough N", s.enough(n, p, x, false), up);
        Due.is("enough D", s.enough(n, p, x, true), down);
    }

    private static void sight() {
        SewnYear x = all();
        int[][] facts = {{2, 1, 0}, {0, 1, 2}};
        Due.is("facts", x.fact(0, NONE, 0), 2);
        Due.is("facts, other what", x.fact(0, NONE, 1), -2);
        for (int k = 0; k < 2; k++) {
            for (int what = 0; what < 3; what++) {
                Due.is("fact", x.fact(0, k, what), facts[k][what]);
            }
        }
        Due.is("fact 2", x.fact(0, 2, 0), -2);
        Due.is("fact -2", x.fact(0, -2, 0), -2);
        Due.is("fact what 3", x.fact(0, 0, 3), -2);
        Due.is("fact what -1", x.fact(0, 0, -1), -2);
        Due.is("sight 1", x.fact(1, 0, 0), -2);
        Due.is("fits", x.fits(0, 0, NONE, NONE), 1);
        Due.is("fits, no coat", x.fits(1, 0, NONE, NONE), NONE);
        Due.is("fits, no sight", x.fits(0, 1, NONE, NONE), NONE);
        Due.is("holds", x.fits(0, 0, 1, 1), 1);
        Due.is("holds not", x.fits(0, 0, 1, 0), 0);
        Due.is("seam 4", x.fits(0, 0, 4, 0), NONE);
        Due.is("seam -2", x.fits(0, 0, -2, 0), NONE);
        Due.is("place 4", x.fits(0, 0, 0, 4), NONE);
        Due.is("place -1", x.fits(0, 0, 0, -1), NONE);
        Due.is("sure 0", x.sure(0, 0, 0), 0);
        Due.is("sure 3", x.sure(0, 0, 3), 3);
        Due.is("sure 4", x.sure(0, 0, 4), NONE);
        Due.is("sure -2", x.sure(0, 0, -2), NONE);
        Due.is("ask", x.sure(0, 0, NONE), 1);
        Tape.tell(x, 3, "");
        Due.is("fits all", x.fits(0, 1, NONE, HIGH), 3);
        Due.is("holds 0 0", x.fits(0, 1, 0, 0), 2);
        Due.is("sure 0", x.sure(0, 1, 0), NONE);
        Due.is("sure 3", x.sure(0, 1, 3), 3);
        Due.is("ask", x.sure(0, 1, NONE), 1);
        Tape.tell(x, 3, 1, "at 0 8;");
        Due.is("no such place", x.fits(0, 1, NONE, NONE), 0);
        Due.is("nothing fits", x.sure(0, 1, NONE), NONE);
        Due.is("nothing fits", x.sure(0, 1, 3), NONE);
        Tape.tell(x, 3, 1, "not 4 0;");
        Due.is("told of no seam", x.fits(0, 1, NONE, NONE), NONE);
        Due.is("told of no seam", x.sure(0, 1, 3), NONE);
        Tape.tell(x, 3, 1, "before 0 8;");
        Due.is("told of no seam", x.fits(0, 1, 0, 0), NONE);
        Due.is("told of no seam", x.sure(0, 1, NONE), NONE);
        askedOfMany(x);
    }

    private static void askedOfMany(SewnYear x) {
        Tape.tell(x, 0, "seam 1 0 0;seam 1 0 0;seam 1 0 0;");
        Tape.tell(x, 3, 1, "before 0 1;");
        Due.is("fits", x.fits(1, 1, NONE, NONE), 3);
        Due.is("ask", x.sure(1, 1, NONE), 2);
        Tape.tell(x, 3, 1, "before 0 1;before 1 2;");
        Due.is("one fits", x.fits(1, 1, NONE, NONE), 1);
        Due.is("the least of several", x.sure(1, 1, NONE), 1);
        Tape.tell(x, 3, 1, "before 0 1;before 1 0;");
        Due.is("none fits", x.fits(1, 1, NONE, NONE), 0);
        Due.is("none to ask for", x.sure(1, 1, NONE), NONE);
        Tape.tell(x, 3, 1, "at 2 1;");
        Due.is("holds", x.fits(1, 1, 2, 1), 2);
        Due.is("sure", x.sure(1, 1, 1), 2);
        Due.is("ask", x.sure(1, 1, NONE), 1);
        Tape.tell(x, 0, 1, "seam 1 0 0;");
        Tape.tell(x, 3, 1, "");
        Due.is("too few to ask for", x.sure(1, 1, NONE), NONE);
        Due.is("the only one", x.sure(1, 1, 0), 0);
    }

    private static void drawn() {
        SewnYear x = all();
        Due.is("n 61", x.drawn(0, 1, 61, 0), -1000);
        Due.is("n -1", x.drawn(0, 1, -1, 0), -1000);
        Due.is("no coat", x.drawn(1, 1, 1, 0), -1000);
        Due.is("what 6", x.drawn(0, 1, 1, 6), -1000);
        Due.is("seam 4", x.drawn(0, 1, 1, 14), -1000);
        Due.is("n 0", x.drawn(0, 1, 0, 1), 1);
        // Seed 1: 1103527590 >>> 16 is 16838, 8 of ten: day.
        Due.is("day", x.drawn(0, 1, 1, 0), 1);
        // Seed 0: 12345 >>> 16 is 0, a SEAM; then 54236, 0 of four: it is sewn.
        Due.is("sewn", x.drawn(0, 0, 1, 2), 1);
        Due.is("its stitch", x.drawn(0, 0, 1, 10), 1);
        Due.is("no other's", x.drawn(0, 0, 1, 11), 0);
    }
}
