/** Promises 19 to 22: what is heard, sources, probes, good ones parted from bad ones. */
public final class RumourTest {
    // p teaches q, r teaches s: p, r know a from the start, and q does of b.
    private static final String SCHOOL = "fact a worth 1;fact b worth 1;person p calm 1;person q calm 2;"
            + "person r calm 3;person s calm 4;taught q by p;taught s by r;knows p a;errs r a;knows q b;";

    private static void hear() {
        PupilsPupil x = Check.schooled(SCHOOL);
        Check.due("one row", Check.hear(x, 3, 2), 1);
        Check.due("rows HEARD", x.has(9), 1);
        Check.due("three rows", Check.hear(x, 0, 0, 1, 1, 0, 0), 3);
        Check.due("in their place", x.has(9), 3);
        Check.due("no row", x.hear(), -1);
        Check.due("half a row", Check.hear(x, 0), -1);
        Check.due("a row and a half", Check.hear(x, 0, 1, 1), -1);
        Check.due("none such", Check.hear(x, 4, 1), -1);
        Check.due("3 is nothing that one is", Check.hear(x, 0, 3), -1);
        Check.due("the last row counts, too", Check.hear(x, 0, 1, 1, 1, 2, 255), -1);
        Check.due("all stays", x.has(9), 3);
        Check.due("status(1)", x.status(1), 6);
        Check.due("16 rows", Check.hear(x, new int[32]), 16);
        Check.due("17 rows", Check.hear(x, new int[34]), -1);
        Check.due("rows HEARD", x.has(9), 16);
        x.years(1);
        x.undo();
        Check.due("acts leave it", x.has(9), 16);
        Check.due("so do images", Check.on(x, Check.imageOf(x)), true);
        Check.due("rows HEARD", x.has(9), 16);
        Check.school(x, SCHOOL);
        Check.due("a school does not", x.has(9), 0);
    }

    private static void sources() {
        PupilsPupil x = Check.schooled(SCHOOL);
        Check.due("all, if nothing is HEARD", x.sources(0, 3), 5);
        Check.due("of b", x.sources(1, 0), 2);
        Check.due("n 21", x.sources(0, 21), -1);
        Check.due("n -1", x.sources(0, -1), -1);
        Check.due("n 20", x.sources(0, 20), 5);
        Check.due("no such FACT", x.sources(2, 1), -1);
        Check.due("no such FACT", x.sources(-1, 1), -1);
        Check.hear(x, 1, 2);
        Check.due("q is WRONG behind 1 YEAR: p", x.sources(0, 1), 1);
        Check.due("but behind 0 he is neither", x.sources(0, 0), 0);
        Check.hear(x, 1, 0);
        Check.due("neither behind 0: both", x.sources(0, 0), 5);
        Check.hear(x, 1, 1);
        Check.due("RIGHT behind 1: r", x.sources(0, 1), 4);
        Check.hear(x, 1, 1, 3, 1);
        Check.due("both pupils RIGHT: none", x.sources(0, 1), 0);
        Check.hear(x, 1, 1, 1, 2);
        Check.due("RIGHT and WRONG: none", x.sources(0, 1), 0);
        Check.hear(x, 2, 2);
        Check.due("r is WRONG now", x.sources(0, 0), 4);
        Check.due("nothing is done by it", x.person(0, 3) + x.has(4) + x.has(10), 1);
        Check.on(x, Check.summed(3, 231, 0, 1, 0, 3, 0, 1, 2, 0, 3, 0, 0, 0, 1, 3, 0, 3, 0, 0, 3, 0, 0));
        Check.due("in YEAR 999", x.has(4), 999);
        Check.due("behind 0 YEARS", x.sources(0, 0), 4);
        Check.due("behind 1 YEAR", x.sources(0, 1), -1);
        Check.due("probe behind 1 YEAR", x.probe(0, 1, 0), -1);
    }

    private static void setRightOnTheWay() {
        // p teaches q teaches r; all are told of a: the source's error is mended by his master.
        PupilsPupil x = Check.schooled("fact a worth 1;person p calm 1;person q calm 1;person r calm 1;"
                + "taught q by p;taught r by q;knows p a;knows q a;errs r a;");
        Check.hear(x, 0, 1, 1, 1, 2, 1);
        Check.due("all RIGHT behind 1 YEAR: q or r", x.sources(0, 1), 6);
        Check.due("probe", x.probe(0, 1, 0), 0);
        Check.due("all are left", x.probe(0, 1, 1), 2);
        Check.due("behind 0 none", x.probe(0, 0, 0), -1);
        Check.due("nor how many", x.probe(0, 0, 1), -1);
    }

    private static void probe() {
        PupilsPupil x = Check.schooled(SCHOOL);
        Check.due("p himself parts them", x.probe(0, 1, 0), 0);
        Check.due("one is left", x.probe(0, 1, 1), 1);
        Check.due("one SOURCE", x.probe(1, 1, 1), 1);
        Check.due("what 2", x.probe(0, 1, 2), -1);
        Check.due("what -1", x.probe(0, 1, -1), -1);
        Check.due("no such FACT", x.probe(2, 1, 0), -1);
        Check.due("n 21", x.probe(0, 21, 0), -1);
        Check.due("n -1", x.probe(0, -1, 0), -1);
        PupilsPupil y = Check.schooled("fact a worth 1;person z calm 1;person p calm 1;person q calm 1;"
                + "person r calm 1;person s calm 1;knows p a;knows q a;knows r a;knows s a;"
                + "taught q by p;taught s by p;");
        // Behind 1 YEAR each pupil who alone was WRONG is RIGHT again: p and r show, q and s don't.
        Check.due("z is neither, whoever it was", y.probe(0, 1, 0), 1);
        Check.due("three are left at the most", y.probe(0, 1, 1), 3);
        Check.due("behind 0 YEARS", y.probe(0, 0, 1), 3);
        // r hears a from p, s from q, whose own errors t and u, their masters, mend ahead of that.
        PupilsPupil w = Check.schooled("fact a worth 1;person t calm 1;person u calm 1;person p calm 1;"
                + "person q calm 1;person r calm 1;person s calm 1;knows p a;knows q a;knows t a;"
                + "taught p by t;taught q by t;taught r by p;taught s by q;");
        Check.due("behind 1 YEAR t or r or s, t first", w.probe(0, 1, 0), 0);
        Check.due("two are left", w.probe(0, 1, 1), 2);
        Check.hear(w, 0, 1);
        Check.due("t was RIGHT: r tells p from q", w.probe(0, 1, 0), 4);
        Check.due("one is left", w.probe(0, 1, 1), 1);
        PupilsPupil none = Check.schooled("fact a worth 1;person p calm 1;");
        Check.due("without a SOURCE", none.probe(0, 0, 0), -1);
        Check.due("sources", none.sources(0, 0), 0);
    }

    private static void part() {
        PupilsPupil x = Check.schooled("fact a worth 1;fact b worth 1;fact c worth 1;person p calm 1;person q calm 1;"
                + "person r calm 1;person s calm 1;knows p a;knows p b;knows q b;knows q c;knows r c;knows r a;"
                + "knows s a;errs s b;errs s c;");
        Check.due("p from q: a", x.part(1, 2), 1);
        Check.due("q from p: c", x.part(2, 1), 4);
        Check.due("p from q and r by a and b", x.part(1, 6), 3);
        Check.due("q from s: the least bits", x.part(2, 8), 2);
        Check.due("p, q, r from s by b and c", x.part(7, 8), 6);
        Check.due("s from p", x.part(8, 1), -1);
        Check.due("none good", x.part(0, 15), 0);
        Check.due("none bad", x.part(15, 0), 0);
        Check.due("none", x.part(0, 0), 0);
        Check.due("one in both", x.part(3, 2), -1);
        Check.due("none such, good", x.part(16, 0), -1);
        Check.due("none such, bad", x.part(0, 16), -1);
        Check.due("below 0", x.part(-1, 0), -1);
        Check.due("below 0", x.part(0, Integer.MIN_VALUE), -1);
        PupilsPupil none = Check.schooled("person p calm 1;person q calm 1;");
        Check.due("without FACTS", none.part(1, 2), -1);
        Check.due("without FACTS none bad", none.part(3, 0), 0);
    }

    private static void partByMore() {
        // p knows all three, and each bad one lacks another of them.
        PupilsPupil x = Check.schooled("fact a worth 1;fact b worth 1;fact c worth 1;person p calm 1;person q calm 1;"
                + "person r calm 1;person s calm 1;knows p a;knows p b;knows p c;knows q a;knows q b;"
                + "knows r b;knows r c;knows s a;knows s c;");
        Check.due("by all three", x.part(1, 14), 7);
    }

    public static void main(String[] args) {
        hear();
        sources();
        setRightOnTheWay();
        probe();
        part();
        partByMore();
        Check.close();
    }
}
