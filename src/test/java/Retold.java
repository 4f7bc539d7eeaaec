/** All that a SewnYear tells of what it was told, but for the bytes of the tape: two such rows are equal if nothing changed. */
final class Retold {
    private Retold() {
    }

    static String of(SewnYear x) {
        StringBuilder all = new StringBuilder();
        all.append("fault ").append(x.fault(0)).append(' ').append(x.fault(1));
        for (int k = 0; k < x.count(0); k++) {
            all.append(" coat").append(coat(x, k));
        }
        for (int k = 0; k < x.count(1); k++) {
            all.append(" life").append(life(x, k));
        }
        for (int k = 0; k < x.count(2); k++) {
            all.append(" town").append(town(x, k));
        }
        for (int k = 0; k < x.count(3); k++) {
            all.append(" sight").append(sight(x, k));
        }
        return all.toString();
    }

    static String coat(SewnYear x, int k) {
        StringBuilder all = new StringBuilder();
        int seams = x.coat(k, 0);
        all.append(' ').append(seams).append(" pace ").append(x.coat(k, 1));
        for (int s = 0; s < seams; s++) {
            all.append(" (");
            for (int what = 10; what <= 40; what += 10) {
                all.append(x.coat(k, what + s)).append(what < 40 ? " " : ")");
            }
        }
        for (int d = 0; d < 6; d++) {
            all.append(' ').append(x.coat(k, 100 + d));
        }
        return all.append(" .. ").append(x.coat(k, 199)).toString();
    }

    static String life(SewnYear x, int k) {
        StringBuilder all = new StringBuilder();
        for (int i = 0; i < x.deed(k, SewnYear.NONE, 0); i++) {
            all.append(' ').append(x.deed(k, i, 0)).append(':').append(x.deed(k, i, 1));
        }
        return all.toString();
    }

    static String town(SewnYear x, int k) {
        StringBuilder all = new StringBuilder();
        for (int what = 0; what < 5; what++) {
            all.append(' ').append(x.town(k, what));
        }
        for (int w = 0; w < x.town(k, 0); w++) {
            all.append(" (");
            for (int what = 10; what <= 60; what += 10) {
                all.append(x.town(k, what + w)).append(what < 60 ? " " : ")");
            }
        }
        return all.toString();
    }

    static String sight(SewnYear x, int k) {
        StringBuilder all = new StringBuilder();
        for (int i = 0; i < x.fact(k, SewnYear.NONE, 0); i++) {
            all.append(' ').append(x.fact(k, i, 0)).append(':').append(x.fact(k, i, 1)).append(':')
                .append(x.fact(k, i, 2));
        }
        return all.toString();
    }

    /** A SewnYear that was told one of each sort, two COATS. */
    static SewnYear some() {
        SewnYear x = new SewnYear();
        Tape.tell(x, 0, "seam 3 0 2;seam 2 1 0;after 1 0;pace 2;grows 0 1;grows 3 1;");
        Tape.tell(x, 0, "seam 9 3 9;grows 99 9;");
        Tape.tell(x, 1, "sew 0;day;grow 2;");
        Tape.tell(x, 2, "wearer 2 0 6 5;wearer 0 4 3 2;away 1 0 2;tailor 1 2;");
        Tape.tell(x, 3, "not 1 0;before 0 1;");
        return x;
    }
}
