/** Terms III and promises 19 to 22: each sentence that names a bound of what is heard, sources, probes, parts. */
public final class EdgeRumourTest {
    // p teaches q, r teaches s; p is right, r wrong of a; q is right of b; none knows c.
    private static final String SCHOOL = "fact a worth 1;fact b worth 1;fact c worth 1;person p calm 1;person q calm 2;"
            + "person r calm 3;person s calm 4;taught q by p;taught s by r;knows p a;errs r a;knows q b;";

    private static void rows() {
        Check.sentence("The tape (it goes) tells what is HEARD, 1 to 16 rows of two bytes, PERSON, 0 .. 2: how many rows; "
                + "NONE, refused (1), all staying, when it is none such.");
        PupilsPupil x = Check.schooled(SCHOOL);
        int refused = 0;
        int rows = 0;
        for (int bytes = 0; bytes <= 40; bytes++) {
            boolean fits = bytes % 2 == 0 && bytes >= 2 && bytes <= 32;
            rows = fits ? bytes / 2 : rows;
            refused += fits ? 0 : 1;
            Check.due("hear() of " + bytes, Check.hear(x, new int[bytes]), fits ? rows : -1);
            Check.due("rows HEARD", x.has(9), rows);
            Check.due("refused", x.status(1), refused);
            Check.due("the tape is gone", x.end(1), false);
        }
        Check.due("a full tape", Check.hear(x, new int[1600]), -1);
    }

    private static void bytesOfRows() {
        Check.sentence("rows of two bytes, PERSON, 0 .. 2");
        PupilsPupil x = Check.schooled(SCHOOL);
        for (int b = 0; b < 256; b++) {
            Check.due("of PERSON " + b, Check.hear(x, b, 0), b < 4 ? 1 : -1);
            Check.due("that he is " + b, Check.hear(x, 3, b), b < 3 ? 1 : -1);
            Check.due("in a second row", Check.hear(x, 0, 0, b, 1), b < 4 ? 2 : -1);
            Check.due("in a second row", Check.hear(x, 0, 0, 0, b), b < 3 ? 2 : -1);
            Check.due("ahead of a second row", Check.hear(x, b, 0, 0, 0), b < 4 ? 2 : -1);
        }
        PupilsPupil eight = Check.schooled("person a calm 1;person b calm 1;person c calm 1;person d calm 1;"
                + "person e calm 1;person f calm 1;person g calm 1;person h calm 1;");
        Check.due("the eighth", Check.hear(eight, 7, 2), 1);
        Check.due("a ninth", Check.hear(eight, 8, 2), -1);
    }

    private static void allStays() {
        Check.sentence("NONE, refused (1), all staying, when it is none such.");
        PupilsPupil x = Check.schooled(SCHOOL);
        Check.hear(x, 1, 2);
        Check.due("q is WRONG: by p", x.sources(0, 1), 1);
        int[][] bad = {{}, {1}, {1, 3}, {4, 1}, {1, 1, 1}, {1, 1, 1, 3}, {1, 1, 4, 1}, new int[34]};
        for (int[] rows : bad) {
            Check.due("hear()", Check.hear(x, rows), -1);
            Check.due("one row still", x.has(9), 1);
            Check.due("the same still", x.sources(0, 1), 1);
        }
        Check.due("refused", x.status(1), bad.length);
        Check.due("another one", Check.hear(x, 1, 1), 1);
        Check.due("in its place", x.sources(0, 1), 4);
    }

    private static void sixteenRows() {
        Check.sentence("all is so then");
        for (int k = 0; k < 16; k++) {
            int[] rows = new int[32];
            for (int j = 0; j < 16; j++) {
                rows[2 * j] = 1;
                rows[2 * j + 1] = 2;
            }
            PupilsPupil x = Check.schooled(SCHOOL);
            Check.due("hear()", Check.hear(x, rows), 16);
            Check.due("all say the same", x.sources(0, 1), 1);
            rows[2 * k + 1] = 1;
            Check.due("hear()", Check.hear(x, rows), 16);
            Check.due("row " + k + " says another", x.sources(0, 1), 0);
            Check.due("no PROBE", x.probe(0, 1, 0), -1);
        }
    }

    private static void sources() {
        Check.sentence("SOURCES of a FACT, by what is HEARD (all, if nothing is) behind n YEARS (0 .. 20), as bits; "
                + "NONE when there is none such, or n can't be.");
        PupilsPupil x = Check.schooled(SCHOOL);
        int[] all = {5, 2, 0};
        for (int f = -1; f < 9; f++) {
            for (int n = -2; n <= 23; n++) {
                boolean there = f >= 0 && f < 3 && n >= 0 && n <= 20;
                Check.due("sources(" + f + ", " + n + ")", x.sources(f, n), there ? all[f] : -1);
            }
        }
        for (int far : Check.FAR) {
            Check.due("sources(" + far + ", 0)", x.sources(far, 0), -1);
            Check.due("sources(0, " + far + ")", x.sources(0, far), far == 16 ? 5 : -1);
        }
        for (int year = 977; year <= 999; year++) {
            Check.setYear(x, year);
            for (int n = 0; n <= 21; n++) {
                boolean can = n <= 20 && year + n <= 999;
                Check.due("sources(0, " + n + ") in " + year, x.sources(0, n), can ? 5 : -1);
                Check.due("probe(0, " + n + ", 1) in " + year, x.probe(0, n, 1), can ? 1 : -1);
            }
        }
        PupilsPupil late = Check.schooled(SCHOOL + "takes year=19;");
        Check.hear(late, 1, 2);
        Check.due("behind 19 q is neither", late.sources(0, 19), 0);
        Check.due("behind 20 he is WRONG", late.sources(0, 20), 1);
        Check.due("probe", late.probe(0, 20, 1), 1);
        Check.due("without FACTS", Check.schooled("person p calm 1;").sources(0, 0), -1);
        Check.due("without PEOPLE", Check.schooled("fact f worth 1;").sources(0, 0), 0);
    }

    private static void whoCanBe() {
        Check.sentence("whoever is RIGHT or WRONG of it now can be the SOURCE, if, were he alone WRONG of it now, "
                + "all others of these RIGHT");
        StringBuilder s = new StringBuilder("fact a worth 1;");
        for (char c = 'a'; c <= 'h'; c++) {
            s.append("person p").append(c).append(" calm 1;");
        }
        PupilsPupil x = Check.schooled(s + "knows pa a;errs pc a;errs pd a;knows ph a;");
        Check.due("RIGHT or WRONG", x.sources(0, 0), 1 + 4 + 8 + 128);
        int[][] rows = {{0, 2}, {0, 1}, {0, 0}, {1, 0}, {1, 1}, {1, 2}, {2, 2}, {7, 2}, {7, 1}, {0, 1, 2, 1, 3, 1}};
        int[] want = {1, 4 + 8 + 128, 0, 1 + 4 + 8 + 128, 0, 0, 4, 128, 1 + 4 + 8, 128};
        for (int k = 0; k < rows.length; k++) {
            Check.hear(x, rows[k]);
            Check.due("by rows " + k, x.sources(0, 0), want[k]);
        }
        Check.due("nothing is done", x.fact(0, 1) * 10 + x.fact(0, 2), 22);
    }

    private static void probe() {
        Check.sentence("PROBE of a FACT behind n YEARS (0 .. 20): the PERSON (what 0), how many SOURCES are left "
                + "at the most (1). NONE without a SOURCE, when there is none such, n can't be, or for others.");
        PupilsPupil x = Check.schooled(SCHOOL);
        int[][] want = {{0, 1}, {0, 1}, {-1, -1}};
        for (int f = -1; f < 9; f++) {
            for (int n = -1; n <= 22; n++) {
                for (int what = -1; what < 4; what++) {
                    boolean there = f >= 0 && f < 3 && n >= 0 && n <= 20 && what >= 0 && what < 2;
                    Check.due("probe(" + f + ", " + n + ", " + what + ")", x.probe(f, n, what),
                            there ? want[f][what] : -1);
                }
            }
        }
        for (int far : Check.FAR) {
            Check.due("probe(" + far + ", 0, 0)", x.probe(far, 0, 0), -1);
            Check.due("probe(0, " + far + ", 1)", x.probe(0, far, 1), far == 16 ? 1 : -1);
            Check.due("probe(0, 0, " + far + ")", x.probe(0, 0, far), -1);
        }
        Check.hear(x, 0, 0);
        Check.due("nothing that is HEARD can be so", x.probe(0, 0, 0), -1);
        Check.due("nor how many", x.probe(0, 0, 1), -1);
    }

    private static void probeOfLikeOnes() {
        Check.sentence("PROBE: the PERSON by whom, whatever he is then, the most SOURCES that are left are fewest; "
                + "of like ones the first.");
        // Of eight who are told, each alone shows himself: seven are left at the most, by the first.
        StringBuilder s = new StringBuilder("fact a worth 1;");
        for (char c = 'a'; c <= 'h'; c++) {
            s.append("person p").append(c).append(" calm 1;knows p").append(c).append(" a;");
        }
        PupilsPupil x = Check.schooled(s.toString());
        Check.due("the first", x.probe(0, 0, 0), 0);
        Check.due("seven are left", x.probe(0, 0, 1), 7);
        Check.hear(x, 0, 1);
        Check.due("pa is not it: the first who tells", x.probe(0, 0, 0), 1);
        Check.due("six are left of seven", x.probe(0, 0, 1), 6);
        Check.hear(x, 7, 2);
        Check.due("ph it is: anyone, so the first", x.probe(0, 0, 0), 0);
        Check.due("one is left", x.probe(0, 0, 1), 1);
    }

    private static void part() {
        Check.sentence("PARTED, good ones and bad ones (bits of PEOPLE, none in both): FACTS as bits; "
                + "NONE when they can't be, or there are none such.");
        PupilsPupil x = Check.schooled(SCHOOL);
        Check.due("p from all others", x.part(1, 14), 1);
        Check.due("q from all others", x.part(2, 13), 2);
        Check.due("p and q from r", x.part(3, 4), 3);
        Check.due("r from s: he is WRONG", x.part(4, 8), -1);
        Check.due("s from r", x.part(8, 4), -1);
        for (int p = 0; p < 16; p++) {
            Check.due("none good", x.part(0, p), 0);
            Check.due("none bad", x.part(p, 0), 0);
            Check.due("in both", x.part(p, p), p == 0 ? 0 : -1);
            Check.due("a fifth one good", x.part(p | 16, 0), -1);
            Check.due("a fifth one bad", x.part(0, p | 16), -1);
        }
        for (int far : Check.FAR) {
            Check.due("part(" + far + ", 0)", x.part(far, 0), -1);
            Check.due("part(0, " + far + ")", x.part(0, far), -1);
        }
        Check.due("part(-1, 0)", x.part(-1, 0), -1);
        Check.due("part(0, -1)", x.part(0, -1), -1);
        PupilsPupil none = new PupilsPupil();
        Check.due("none of none", none.part(0, 0), 0);
        Check.due("one of none", none.part(1, 0), -1);
        Check.due("one of none", none.part(0, 1), -1);
    }

    private static void partFewest() {
        Check.sentence("PARTED are told good ones from told bad ones by FACTS, if each good one is RIGHT of more of them "
                + "than each bad one: the fewest; of like ones the least bits.");
        StringBuilder s = new StringBuilder();
        for (char c = 'a'; c <= 'h'; c++) {
            s.append("fact f").append(c).append(" worth 1;person p").append(c).append(" calm 1;");
        }
        PupilsPupil x = Check.schooled(s.toString());
        int[] image = Check.imageOf(x);
        image[3] = 255;
        for (int p = 1; p < 8; p++) {
            image[5 * p + 3] = 255 & ~(1 << p);
        }
        Check.due("on()", Check.on(x, Check.summed(image)), true);
        // pa knows all, each other one all but one: it takes all seven of those.
        Check.due("seven FACTS", x.part(1, 254), 254);
        Check.due("the eighth bit", x.part(1, 128), 128);
        Check.due("as many is not more", x.part(2, 4), 4);
        image[8] = 128;
        Check.due("on()", Check.on(x, Check.summed(image)), true);
        Check.due("the least bits of like ones", x.part(1, 2), 1);
        Check.due("fewer ahead of less", x.part(2, 128), 128);
        image[3] = 255;
        image[8] = 255 & ~1;
        image[13] = 255 & ~2;
        Check.due("on()", Check.on(x, Check.summed(image)), true);
        Check.due("two FACTS, one for each", x.part(1, 6), 3);
        // p from q and r by c alone, though a and b together would do, and are the lesser bits.
        PupilsPupil y = Check.schooled("fact a worth 1;fact b worth 1;fact c worth 1;person p calm 1;person q calm 1;"
                + "person r calm 1;knows p a;knows p b;knows p c;knows q a;knows r b;");
        Check.due("the fewest, ahead of the least bits", y.part(1, 6), 4);
        Check.due("all eight are good", x.part(255, 0), 0);
        Check.due("all eight are bad", x.part(0, 255), 0);
        Check.due("a ninth", x.part(256, 0), -1);
    }

    public static void main(String[] args) {
        rows();
        bytesOfRows();
        allStays();
        sixteenRows();
        sources();
        whoCanBe();
        probe();
        probeOfLikeOnes();
        part();
        partFewest();
        Check.close();
    }
}
