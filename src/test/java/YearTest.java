/** Promises 6, 8 to 12, 25, 26, 28: what is so, and how years change it. */
public final class YearTest {
    static final String CHAIN = "fact a worth 3;fact b worth 5;person ann calm 10;person bob calm 20;"
            + "person cid calm 30;knows ann a;knows ann b;taught bob by ann;taught cid by bob;pass 8;tries 3;";

    private static void row(PupilsPupil x, int person, int... want) {
        for (int k = 0; k < want.length; k++) {
            Check.due("person(" + person + ", " + k + ")", x.person(person, k), want[k]);
        }
    }

    private static void kept(PupilsPupil x, int k, int year, int person, int kind) {
        Check.due("kept(" + k + ", 0)", x.kept(k, 0), year);
        Check.due("kept(" + k + ", 1)", x.kept(k, 1), person);
        Check.due("kept(" + k + ", 2)", x.kept(k, 2), kind);
    }

    private static void atFirst() {
        PupilsPupil x = Check.schooled(CHAIN + "errs cid a;ill 7;pass 12;");
        int[] has = {2, 3, 12, 3, 0, 0, 0, 1, 0, 0, 0};
        for (int k = 0; k < has.length; k++) {
            Check.due("has(" + k + ")", x.has(k), has[k]);
        }
        Check.due("has(11)", x.has(11), -1);
        Check.due("has(-1)", x.has(-1), -1);
        row(x, 0, 10, -1, 2, 3, 0, 3, 0, 0, -1);
        row(x, 1, 20, 0, 4, 0, 0, 3, 0, 0, -1);
        row(x, 2, 30, 1, 0, 0, 1, 3, 0, 0, -1);
        Check.due("person(3, 0)", x.person(3, 0), -1);
        Check.due("person(-1, 0)", x.person(-1, 0), -1);
        Check.due("person(0, -1)", x.person(0, -1), -1);
        int[][] facts = {{3, 1, 1, -1}, {5, 1, 0, -1}, {-1, -1, -1, -1}};
        for (int f = 0; f < 3; f++) {
            for (int k = 0; k < 4; k++) {
                Check.due("fact(" + f + ", " + k + ")", x.fact(f, k), facts[f][k]);
            }
        }
        Check.due("fact(-1, 0)", x.fact(-1, 0), -1);
        Check.due("fact(0, -1)", x.fact(0, -1), -1);
        Check.due("marks(0)", x.marks(0), 8);
        Check.due("marks(1)", x.marks(1), 0);
        Check.due("marks(2)", x.marks(2), -3);
        Check.due("marks(3)", x.marks(3), PupilsPupil.NOTHING);
        Check.due("marks(-1)", x.marks(-1), PupilsPupil.NOTHING);
        Check.due("next(0)", x.next(0), -1);
        Check.due("next(1)", x.next(1), 0);
        Check.due("next(2)", x.next(2), -1);
        Check.due("next(3)", x.next(3), -1);
        Check.due("next(-1)", x.next(-1), -1);
    }

    private static void chainOfYears() {
        PupilsPupil x = Check.schooled(CHAIN);
        Check.due("years(1)", x.years(1), 1);
        row(x, 0, 10, -1, 2, 3, 0, 3, 1, 0);
        row(x, 1, 20, 0, 4, 1, 0, 2, 0, 0);
        // What bob was taught in this year he can't yet have taught on.
        row(x, 2, 30, 1, 0, 0, 0, 2, 0, 0);
        Check.due("next(2)", x.next(2), 0);
        Check.due("years(1)", x.years(1), 1);
        row(x, 1, 20, 0, 4, 3, 0, 2, 1, 0);
        row(x, 2, 30, 1, 0, 1, 0, 1, 0, 0);
        Check.due("DOCTORS", x.has(6), 0);
        Check.due("years(3)", x.years(3), 1);
        row(x, 0, 10, -1, 2, 3, 0, 3, 1, 1);
        row(x, 2, 30, 1, 0, 3, 0, 1, 1, 0);
        Check.due("YEAR", x.has(4), 5);
        Check.due("PASSED", x.has(5), 3);
        Check.due("DOCTORS", x.has(6), 1);
        Check.due("KEPT", x.has(8), 4);
        kept(x, 0, 0, 0, 1);
        kept(x, 1, 1, 1, 1);
        kept(x, 2, 2, 2, 1);
        kept(x, 3, 2, 0, 2);
        kept(x, 4, -1, -1, -1);
        kept(x, -1, -1, -1, -1);
        Check.due("kept(0, 3)", x.kept(0, 3), -1);
        Check.due("kept(0, -1)", x.kept(0, -1), -1);
    }

    private static void passedAheadOfDoctors() {
        PupilsPupil x = Check.schooled("fact a worth 9;person p calm 0;person q calm 0;person r calm 0;"
                + "person s calm 0;taught r by q;taught q by p;knows r a;knows s a;knows p a;");
        x.tell(1, 0);
        x.years(1);
        Check.due("none has PASSED by 9 of 10", x.has(5), 0);
        PupilsPupil y = Check.schooled("pass 9;fact a worth 9;person p calm 0;person q calm 0;person r calm 0;"
                + "person s calm 0;taught r by q;taught q by p;knows r a;knows s a;knows p a;");
        Check.due("years(1)", y.years(1), 4);
        kept(y, 0, 0, 0, 1);
        kept(y, 1, 0, 1, 1);
        kept(y, 2, 0, 2, 1);
        kept(y, 3, 0, 3, 1);
        kept(y, 4, 0, 0, 2);
        Check.due("KEPT", y.has(8), 5);
    }

    private static void garbledAndSetRight() {
        String school = "fact a worth 1;fact b worth 2;fact c worth 3;person m calm 50;person p calm 5;"
                + "person q calm 60;taught p by m;taught q by m;knows m a;errs m b;knows m c;errs p a;";
        PupilsPupil x = Check.schooled(school + "garble all;tries 0;");
        Check.due("next(1)", x.next(1), 0);
        x.years(1);
        Check.due("WRONG is set RIGHT, garbled or not", x.person(1, 3), 1);
        Check.due("else garbled", x.person(2, 4), 1);
        Check.due("q is WRONG, m RIGHT: again", x.next(2), 0);
        x.years(1);
        Check.due("by a MASTER who is WRONG", x.person(1, 4), 2);
        Check.due("q is RIGHT now", x.person(2, 3), 1);
        Check.due("both WRONG of b: on to c", x.next(1), 2);
        x.years(1);
        Check.due("p garbles c", x.person(1, 4), 6);
        x.years(1);
        Check.due("p is RIGHT of a and c", x.person(1, 3), 5);
        Check.due("p is WRONG of b", x.person(1, 4), 2);
        Check.due("nothing more for p", x.next(1), -1);
        PupilsPupil y = Check.schooled(school);
        y.years(3);
        Check.due("never garbled without the law", y.person(2, 3), 5);
        Check.due("RIGHT pupils are not made WRONG", y.person(1, 3), 5);
    }

    private static void takesLaw() {
        String school = "fact a worth 4;fact b worth 2;fact c worth 6;person m calm 33;person p calm 7;"
                + "person q calm 9;taught p by m;taught q by m;knows m a;knows m b;knows m c;errs q c;tries 0;";
        String[] laws = {"worth<4", "calm=7", "right>0", "wrong=1", "year=1", "class=2", "class=1", "mcalm=33",
            "worth=6", "not all", "calm+worth=13 or calm*2=18 and worth>5"};
        int[][] next = {{1, 1}, {0, -1}, {-1, -1}, {-1, 0}, {-1, -1}, {0, 0}, {-1, -1}, {0, 0},
            {2, 2}, {-1, -1}, {2, 0}};
        for (int k = 0; k < laws.length; k++) {
            PupilsPupil x = Check.schooled(school + "takes " + laws[k] + ";");
            Check.due("next(1) by " + laws[k], x.next(1), next[k][0]);
            Check.due("next(2) by " + laws[k], x.next(2), next[k][1]);
        }
        PupilsPupil x = Check.schooled(school + "takes year=1;");
        x.years(1);
        Check.due("nothing in YEAR 0", x.person(1, 3), 0);
        Check.due("next(1) in YEAR 1", x.next(1), 0);
        x.years(1);
        Check.due("a in YEAR 1", x.person(1, 3), 1);
        PupilsPupil y = Check.schooled(school + "garble class=2 and mcalm=33 and worth=2 and calm=7 and right=1;");
        y.years(2);
        Check.due("p garbles b alone", y.person(1, 4), 2);
        Check.due("q does not", y.person(2, 3), 3);
    }

    private static void sitsLaw() {
        String school = "fact a worth 4;person p calm 7;person q calm 9;taught q by p;knows p a;tries 2;pass 4;";
        PupilsPupil x = Check.schooled(school + "sits marks>3;");
        Check.due("both PASSED, by what is so now", x.years(1), 2);
        PupilsPupil y = Check.schooled(school + "sits year>1 and left=2 and right=1 and wrong=0 and calm>8;");
        Check.due("none sits", y.years(2), 0);
        Check.due("no try is lost", y.person(1, 5), 2);
        Check.due("q sits in YEAR 2", y.years(1), 1);
        Check.due("who", y.kept(0, 1), 1);
        Check.due("when", y.kept(0, 0), 2);
        PupilsPupil z = Check.schooled("fact a worth 4;person p calm 7;person q calm 8;errs p a;tries 2;pass 0;");
        Check.due("MARKS 0 are enough for 0", z.years(1), 1);
        Check.due("MARKS -4 are not", z.person(0, 6), 0);
        Check.due("one try less", z.person(0, 5), 1);
        z.years(3);
        Check.due("no tries left", z.person(0, 5), 0);
        z.tell(0, 0);
        Check.due("without tries none sits", z.years(5), 0);
    }

    private static void doctorsStay() {
        PupilsPupil x = Check.schooled(YearTest.CHAIN);
        x.years(3);
        Check.due("ann is a DOCTOR", x.person(0, 7), 1);
        x.teach(2, -1);
        x.teach(1, -1);
        x.years(1);
        Check.due("and stays it", x.person(0, 7), 1);
        x.teach(0, 2);
        x.teach(1, 0);
        Check.due("not ahead of a YEAR", x.person(2, 7), 0);
        x.years(1);
        Check.due("cid by bob, who PASSED long ago", x.person(2, 7), 1);
        Check.due("KEPT in that YEAR", x.kept(4, 0), 4);
    }

    private static void howManyYears() {
        PupilsPupil x = Check.schooled(CHAIN);
        int[] bad = {0, -1, 101, Integer.MAX_VALUE, Integer.MIN_VALUE};
        for (int n : bad) {
            Check.due("years(" + n + ")", x.years(n), -1);
            Check.due("chance(" + n + ")", x.chance(n), -1);
        }
        Check.due("status(3)", x.status(3), 10);
        Check.due("nothing to undo", x.has(10), 0);
        for (int k = 0; k < 9; k++) {
            Check.due("years(100)", x.years(100), k == 0 ? 3 : 0);
        }
        Check.due("years(100) to YEAR 1000", x.years(100), -1);
        Check.due("chance(100) to YEAR 1000", x.chance(100), -1);
        Check.due("years(99)", x.years(99), 0);
        Check.due("YEAR", x.has(4), 999);
        Check.due("years(1)", x.years(1), -1);
        Check.due("chance(1)", x.chance(1), -1);
        Check.due("later(0, 0)", x.later(0, 0), 7);
        Check.due("later(1, 0)", x.later(1, 0), -1);
    }

    private static void chanceBySeed() {
        PupilsPupil x = Check.schooled(CHAIN + "ill 0;");
        Check.due("never ill", x.chance(3), 0);
        Check.due("as without draws", x.has(8), 4);
        PupilsPupil y = Check.schooled(CHAIN + "ill 100;");
        Check.due("always ill", y.chance(4), 12);
        Check.due("none is taught", y.has(5), 0);
        Check.due("none sits", y.person(1, 5), 3);
        Check.due("YEAR", y.has(4), 4);
        Check.due("one ACT", y.has(10), 1);
        PupilsPupil z = Check.schooled(CHAIN + "ill 43;");
        Check.due("by seed 1", z.chance(7), SchoolTextTest.draws(1, 21, 43));
        Check.due("seed(5)", z.seed(5), true);
        Check.due("by seed 5", z.chance(7), SchoolTextTest.draws(5, 21, 43));
        Check.due("seed(0)", z.seed(0), true);
        Check.due("by seed 0", z.chance(2), SchoolTextTest.draws(0, 6, 43));
        Check.due("the greatest", z.seed(Integer.MAX_VALUE), true);
        Check.due("by it", z.chance(20), SchoolTextTest.draws(Integer.MAX_VALUE, 60, 43));
        Check.due("seed(-1)", z.seed(-1), false);
        Check.due("status(5)", z.status(5), 1);
        // Draws of 100 by seed 2: 12, 9, 81. So bob alone is ill in YEAR 0.
        PupilsPupil w = Check.schooled(CHAIN + "ill 10;");
        w.seed(2);
        Check.due("bob is ill", w.chance(1), 1);
        row(w, 0, 10, -1, 2, 3, 0, 3, 1, 0);
        row(w, 1, 20, 0, 4, 0, 0, 3, 0, 0);
        row(w, 2, 30, 1, 0, 0, 0, 2, 0, 0);
        // By seed 1: 18, 99, 26. So ann alone is, and teaches all the same.
        PupilsPupil v = Check.schooled(CHAIN + "ill 19;");
        Check.due("ann is ill", v.chance(1), 1);
        row(v, 0, 10, -1, 2, 3, 0, 3, 0, 0);
        row(v, 1, 20, 0, 4, 1, 0, 2, 0, 0);
        PupilsPupil u = Check.schooled(CHAIN + "ill 18;");
        Check.due("18 is not below 18", u.chance(1), 0);
    }

    public static void main(String[] args) {
        atFirst();
        chainOfYears();
        passedAheadOfDoctors();
        garbledAndSetRight();
        takesLaw();
        sitsLaw();
        doctorsStay();
        howManyYears();
        chanceBySeed();
        Check.close();
    }
}
