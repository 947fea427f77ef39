/** Promises 13 to 18: years ahead, masters, gifts, tries. */
public final class AheadTest {
    private static final String CHAIN = YearTest.CHAIN;

    private static void later() {
        PupilsPupil x = Check.schooled(CHAIN + "errs cid b;");
        int[][] want = {{0, 0, 1, 2}, {1, 0, 1, 3}, {3, 0, 1, 5}, {7, 1, 0, 6}, {7, 1, 0, 6}};
        for (int n = 0; n < want.length; n++) {
            for (int what = 0; what < 4; what++) {
                Check.due("later(" + n + ", " + what + ")", x.later(n, what), want[n][what]);
            }
        }
        Check.due("later(40, 0)", x.later(40, 0), 7);
        Check.due("later(41, 0)", x.later(41, 0), -1);
        Check.due("later(-1, 0)", x.later(-1, 0), -1);
        Check.due("later(0, 4)", x.later(0, 4), -1);
        Check.due("later(0, -1)", x.later(0, -1), -1);
        Check.due("nothing is done by it", x.has(4) + x.has(5) + x.has(8) + x.has(10), 0);
        Check.setYear(x, 970);
        Check.due("later(29, 1)", x.later(29, 1), 1);
        Check.due("later(30, 1)", x.later(30, 1), -1);
    }

    private static void laterIsWithoutDraws() {
        PupilsPupil x = Check.schooled(CHAIN + "ill 100;");
        Check.due("none is ill ahead", x.later(3, 0), 7);
        Check.due("nor in years()", x.years(3), 3);
    }

    private static void doctor() {
        PupilsPupil x = Check.schooled(CHAIN);
        Check.due("doctor(0)", x.doctor(0), 3);
        Check.due("doctor(1)", x.doctor(1), -1);
        Check.due("doctor(3)", x.doctor(3), -1);
        Check.due("doctor(-1)", x.doctor(-1), -1);
        Check.setYear(x, 997);
        Check.due("doctor(0) beyond YEAR 999", x.doctor(0), -1);
        Check.setYear(x, 996);
        Check.due("doctor(0) to YEAR 999", x.doctor(0), 3);
        x.years(3);
        Check.due("doctor(0) now", x.doctor(0), 0);
        PupilsPupil y = Check.schooled(CHAIN + "sits year>38;");
        Check.due("behind 40 YEARS", y.doctor(0), 40);
        PupilsPupil z = Check.schooled(CHAIN + "sits year>39;");
        Check.due("behind 41 YEARS", z.doctor(0), -1);
    }

    /** The chain with its last pupil told first: all who learn count, the first one, too. */
    private static void upsideDown() {
        String school = "fact a worth 3;fact b worth 5;person cid calm 30;person bob calm 20;person ann calm 10;"
                + "knows ann a;knows ann b;taught bob by ann;taught cid by bob;pass 8;tries 3;";
        PupilsPupil x = Check.schooled(school);
        Check.due("doctor(2)", x.doctor(2), 3);
        Check.due("later(3, 0)", x.later(3, 0), 7);
        Check.due("law(3, 0)", x.law(3, 0), 3);
        Check.due("law(3, 1)", x.law(3, 1), 1);
        Check.due("master(0, 1)", x.master(0, 1), 2);
        Check.due("gift(2, 2, 0): a to bob", x.gift(2, 2, 0), 1);
        Check.due("years(3)", x.years(3), 3);
        PupilsPupil y = Check.schooled("fact a worth 1;person p calm 1;person q calm 1;taught p by q;errs q a;");
        Check.due("lost(0)", y.lost(0), 1);
        Check.hear(y, 0, 2);
        Check.due("sources(0, 1)", y.sources(0, 1), 2);
    }

    private static void lost() {
        String school = "fact a worth 1;fact b worth 1;fact c worth 1;person p calm 1;person q calm 2;"
                + "person r calm 3;taught q by p;taught r by q;errs p a;errs p b;knows p c;errs q b;errs r b;";
        PupilsPupil x = Check.schooled(school);
        Check.due("lost(0)", x.lost(0), 2);
        Check.due("lost(1)", x.lost(1), 0);
        Check.due("lost(2)", x.lost(2), -1);
        Check.due("lost(3)", x.lost(3), -1);
        Check.due("lost(-1)", x.lost(-1), -1);
        Check.setYear(x, 998);
        Check.due("lost(0) beyond YEAR 999", x.lost(0), -1);
        PupilsPupil y = Check.schooled(school + "takes year=39 or calm=2;");
        Check.due("lost(0) behind 40 YEARS", y.lost(0), 40);
        PupilsPupil z = Check.schooled(school + "takes year=40 or calm=2;");
        Check.due("lost(0) behind 41 YEARS", z.lost(0), -1);
        PupilsPupil none = Check.schooled("fact a worth 1;");
        Check.due("lost(0) without PEOPLE", none.lost(0), -1);
    }

    private static void master() {
        String school = "fact a worth 4;fact b worth 4;person p calm 1;person q calm 1;person r calm 1;"
                + "person s calm 1;knows q a;knows q b;knows r a;knows r b;errs p a;pass 8;tries 9;";
        PupilsPupil x = Check.schooled(school);
        Check.due("the first of like ones", x.master(0, 0), 1);
        Check.due("behind 2 YEARS", x.master(0, 1), 2);
        Check.due("for s", x.master(3, 0), 1);
        Check.due("what 2", x.master(0, 2), -1);
        Check.due("what -1", x.master(0, -1), -1);
        Check.due("none such", x.master(4, 0), -1);
        Check.due("none such", x.master(-1, 0), -1);
        x.teach(1, 0);
        Check.due("not q, who is taught by p", x.master(0, 0), 2);
        x.teach(2, 1);
        Check.due("nor r, step by step: none", x.master(0, 0), -1);
        Check.due("nor when", x.master(0, 1), -1);
        Check.due("nothing is done by it", x.person(0, 1), -1);
        Check.setYear(x, 998);
        Check.due("beyond YEAR 999", x.master(3, 0), -1);
        Check.setYear(x, 997);
        Check.due("to YEAR 999", x.master(3, 1), 2);
        PupilsPupil y = Check.schooled(school + "taught p by s;knows s a;knows s b;");
        Check.due("PASSED by q ahead of s", y.master(0, 0), 1);
        Check.due("q is PASSED by anyone", y.master(1, 1), 1);
        y.years(1);
        Check.due("PASSED now: the first", y.master(1, 0), 0);
        Check.due("PASSED now: 0", y.master(1, 1), 0);
        PupilsPupil z = Check.schooled(school + "sits year>38;");
        Check.due("behind 40 YEARS", z.master(0, 1), 40);
        PupilsPupil w = Check.schooled(school + "sits year>39;");
        Check.due("behind 41 YEARS", w.master(0, 1), -1);
    }

    private static void sooner() {
        // By q the cheap fact comes first, by r the dear one.
        PupilsPupil x = Check.schooled("fact a worth 1;fact b worth 9;person p calm 1;person q calm 1;"
                + "person r calm 1;knows q a;knows q b;knows r b;pass 9;tries 9;");
        Check.due("r teaches b first", x.master(0, 0), 2);
        Check.due("behind 1 YEAR", x.master(0, 1), 1);
    }

    private static void gift() {
        // ann is a doctor once cid passes, by 8, within n years.
        String school = "fact a worth 3;fact b worth 5;fact c worth 8;person ann calm 1;person bob calm 1;"
                + "person cid calm 1;taught bob by ann;taught cid by bob;pass 8;tries 9;";
        PupilsPupil x = Check.schooled(school);
        Check.due("within 1 YEAR bob, ahead of cid himself", x.gift(0, 1, 0), 1);
        Check.due("by c", x.gift(0, 1, 1), 2);
        Check.due("within 2 YEARS ann, by c", x.gift(0, 2, 0), 0);
        Check.due("c", x.gift(0, 2, 1), 2);
        Check.due("within 0 YEARS none", x.gift(0, 0, 0), -1);
        Check.due("for bob none", x.gift(1, 20, 0), -1);
        Check.due("n 21", x.gift(0, 21, 0), -1);
        Check.due("n -1", x.gift(0, -1, 0), -1);
        Check.due("what 2", x.gift(0, 2, 2), -1);
        Check.due("none such", x.gift(3, 2, 0), -1);
        Check.due("nothing is done by it", x.has(10) + x.fact(2, 1), 0);
        x.tell(2, 0);
        Check.due("of least worth", x.gift(0, 1, 1), 1);
        Check.due("to the first", x.gift(0, 1, 0), 1);
        x.tell(2, 1);
        Check.due("a DOCTOR then anyway", x.gift(0, 1, 0), -1);
        PupilsPupil y = Check.schooled(school + "errs cid c;");
        Check.due("one who is WRONG can be told", y.gift(0, 1, 1), 2);
        PupilsPupil z = Check.schooled("fact a worth 8;fact b worth 8;" + school.substring(30));
        Check.due("of like ones the first FACT", z.gift(0, 1, 1), 0);
        Check.setYear(x, 999);
        Check.due("n 1 in YEAR 999", x.gift(0, 1, 0), -1);
    }

    private static void law() {
        PupilsPupil x = Check.schooled(CHAIN + "tries 0;");
        Check.due("tries for a DOCTOR", x.law(3, 0), 3);
        Check.due("DOCTORS", x.law(3, 1), 1);
        Check.due("none within 2 YEARS", x.law(2, 0), 0);
        Check.due("none", x.law(2, 1), 0);
        Check.due("n 20", x.law(20, 0), 3);
        Check.due("n 21", x.law(21, 0), -1);
        Check.due("n -1", x.law(-1, 0), -1);
        Check.due("what 2", x.law(3, 2), -1);
        Check.due("what -1", x.law(3, -1), -1);
        Check.due("nothing is done by it", x.person(0, 5), 0);
        Check.setYear(x, 997);
        Check.due("n 3 in YEAR 997", x.law(3, 0), -1);
        PupilsPupil y = Check.schooled(CHAIN + "sits left<3;");
        Check.due("none by any number", y.law(3, 1), 0);
        PupilsPupil z = Check.schooled(CHAIN + "sits left<3 and marks>4;tries 9;");
        Check.due("the least number that will do", z.law(3, 0), 1);
        Check.due("by one DOCTOR", z.law(3, 1), 1);
        z.years(9);
        Check.due("not by 9", z.has(6), 0);
        PupilsPupil nine = Check.schooled(CHAIN + "sits left=9 and marks>7;");
        Check.due("9 it must be", nine.law(3, 0), 9);
        Check.due("for one DOCTOR", nine.law(3, 1), 1);
    }

    private static void doctorsAlreadyCount() {
        PupilsPupil x = Check.schooled(CHAIN);
        x.years(3);
        Check.due("law(0, 0)", x.law(0, 0), 0);
        Check.due("law(0, 1)", x.law(0, 1), 1);
    }

    public static void main(String[] args) {
        later();
        laterIsWithoutDraws();
        doctor();
        upsideDown();
        lost();
        master();
        sooner();
        gift();
        law();
        doctorsAlreadyCount();
        Check.close();
    }
}
