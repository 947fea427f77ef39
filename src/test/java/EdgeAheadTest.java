/** Terms III and promises 13 to 18: each sentence that names a bound of years ahead, masters, gifts, tries. */
public final class EdgeAheadTest {
    private static final String CHAIN = YearTest.CHAIN;

    // ---- ahead

    private static void later() {
        Check.sentence("n YEARS AHEAD (0 .. 40): 0 who have PASSED, as bits, 1 DOCTORS, as bits, "
                + "2 WRONG beliefs together, 3 RIGHT ones. NONE when n can't be, or for others.");
        PupilsPupil x = Check.schooled(CHAIN);
        for (int n = -3; n <= 45; n++) {
            int[] want = {n >= 3 ? 7 : n == 2 ? 3 : n == 1 ? 1 : 0, n >= 3 ? 1 : 0, 0, n >= 3 ? 6 : n == 2 ? 5 : 2 + n};
            for (int what = -2; what < 7; what++) {
                boolean there = n >= 0 && n <= 40 && what >= 0 && what < 4;
                Check.due("later(" + n + ", " + what + ")", x.later(n, what), there ? want[what] : -1);
            }
        }
        for (int far : Check.FAR) {
            boolean there = far >= 0 && far <= 40;
            Check.due("later(" + far + ", 0)", x.later(far, 0), there ? 7 : -1);
            Check.due("later(0, " + far + ")", x.later(0, far), -1);
        }
        Check.due("nothing is done", x.has(4) + x.has(5) + x.has(8) + x.has(10), 0);
        PupilsPupil none = new PupilsPupil();
        Check.due("without PEOPLE", none.later(40, 3), 0);
        Check.due("without PEOPLE", none.later(41, 3), -1);
    }

    private static void lastYear() {
        Check.sentence("AHEAD are YEARS as they come from now on without DRAWS (40 at most, not beyond YEAR 999).");
        PupilsPupil x = Check.schooled(CHAIN);
        for (int year = 955; year <= 999; year++) {
            Check.setYear(x, year);
            for (int n = 0; n <= 42; n++) {
                boolean can = n <= 40 && year + n <= 999;
                Check.due("later(" + n + ", 1) in " + year, x.later(n, 1), can ? n >= 3 ? 1 : 0 : -1);
            }
            Check.due("doctor(0) in " + year, x.doctor(0), year <= 996 ? 3 : -1);
            Check.due("master(2, 1) in " + year, x.master(2, 1), year <= 997 ? 2 : -1);
            for (int n = 0; n <= 22; n++) {
                boolean can = n <= 20 && year + n <= 999;
                Check.due("law(" + n + ", 1) in " + year, x.law(n, 1), can ? n >= 3 ? 1 : 0 : -1);
                Check.due("gift(0, " + n + ", 1) in " + year, x.gift(0, n, 1), can && n == 2 ? 0 : -1);
            }
        }
        PupilsPupil y = Check.schooled("fact a worth 1;person p calm 1;person q calm 1;taught q by p;errs p a;");
        for (int year = 990; year <= 999; year++) {
            Check.setYear(y, year);
            Check.due("lost(0) in " + year, y.lost(0), year <= 998 ? 1 : -1);
        }
        PupilsPupil z = Check.schooled(CHAIN + "ill 100;");
        Check.due("none is ill AHEAD", z.later(3, 0), 7);
        Check.due("nor for a DOCTOR", z.doctor(0), 3);
    }

    private static void doctor() {
        Check.sentence("Behind how many YEARS AHEAD a PERSON is a DOCTOR (0: now). "
                + "NONE when he is not, or there is none such.");
        PupilsPupil x = Check.schooled(CHAIN);
        Check.due("doctor(0)", x.doctor(0), 3);
        Check.due("the last PERSON is not", x.doctor(2), -1);
        Check.due("none such", x.doctor(3), -1);
        Check.due("none such", x.doctor(-1), -1);
        for (int far : Check.FAR) {
            Check.due("doctor(" + far + ")", x.doctor(far), -1);
        }
        x.years(2);
        Check.due("behind one", x.doctor(0), 1);
        x.years(1);
        Check.due("now", x.doctor(0), 0);
        x.years(50);
        Check.due("now, long since", x.doctor(0), 0);
        Check.setYear(x, 999);
        Check.due("now, in YEAR 999", x.doctor(0), 0);
        for (int year = 36; year <= 42; year++) {
            PupilsPupil y = Check.schooled(CHAIN + "sits year=" + year + ";");
            Check.due("PASSED in YEAR " + year, y.doctor(0), year <= 39 ? year + 1 : -1);
        }
    }

    private static void lost() {
        Check.sentence("Behind how many YEARS AHEAD (0: now) all are WRONG of a FACT, first; "
                + "NONE when they are not, without PEOPLE, or when there is none such.");
        String school = "fact a worth 1;fact b worth 1;fact c worth 1;person p calm 1;person q calm 1;taught q by p;"
                + "errs p a;errs q a;errs p b;knows q c;errs p c;";
        PupilsPupil x = Check.schooled(school);
        Check.due("now", x.lost(0), 0);
        Check.due("behind one", x.lost(1), 1);
        Check.due("they are not", x.lost(2), -1);
        Check.due("none such", x.lost(3), -1);
        Check.due("none such", x.lost(-1), -1);
        for (int far : Check.FAR) {
            Check.due("lost(" + far + ")", x.lost(far), -1);
        }
        Check.due("without PEOPLE", Check.schooled("fact a worth 1;").lost(0), -1);
        Check.due("without FACTS", Check.schooled("person p calm 1;").lost(0), -1);
        Check.due("of one PERSON", Check.schooled("fact a worth 1;person p calm 1;errs p a;").lost(0), 0);
        Check.due("of none who knows", Check.schooled("fact a worth 1;person p calm 1;").lost(0), -1);
        for (int year = 36; year <= 42; year++) {
            PupilsPupil y = Check.schooled(school + "takes year=" + year + ";");
            Check.due("taught in YEAR " + year, y.lost(1), year <= 39 ? year + 1 : -1);
        }
        // q garbles a, and is set right behind it: what is first counts, not what is last.
        PupilsPupil z = Check.schooled("fact a worth 1;person p calm 1;person q calm 1;person r calm 1;taught q by p;"
                + "taught p by r;errs p a;errs r a;takes year<2;garble all;");
        Check.due("all WRONG behind one", z.lost(0), 1);
        Check.setYear(z, 998);
        Check.due("no lesson in YEAR 998", z.lost(0), -1);
    }

    // ---- masters

    private static void master() {
        Check.sentence("NONE when by none he has, within 40 YEARS or to YEAR 999, there is none such, or for others.");
        PupilsPupil x = Check.schooled(CHAIN);
        for (int p = -1; p < 9; p++) {
            int[][] want = {{-1, -1}, {0, 2}, {0, 2}};
            for (int what = -1; what < 4; what++) {
                boolean there = p >= 1 && p < 3 && what >= 0 && what < 2;
                if (p != 0) {
                    Check.due("master(" + p + ", " + what + ")", x.master(p, what), there ? want[p][what] : -1);
                }
            }
        }
        Check.due("ann has none to be taught by", x.master(0, 0), -1);
        Check.due("so not even when", x.master(0, 1), -1);
        for (int far : Check.FAR) {
            Check.due("master(" + far + ", 0)", x.master(far, 0), -1);
            Check.due("master(1, " + far + ")", x.master(1, far), -1);
        }
        for (int year = 36; year <= 42; year++) {
            PupilsPupil y = Check.schooled(CHAIN + "sits year=" + year + ";");
            Check.due("who, sitting in YEAR " + year, y.master(1, 0), year <= 39 ? 0 : -1);
            Check.due("when, sitting in YEAR " + year, y.master(1, 1), year <= 39 ? year + 1 : -1);
        }
        PupilsPupil one = Check.schooled("person p calm 1;pass 0;");
        Check.due("alone", one.master(0, 0), -1);
        one.years(1);
        Check.due("alone, PASSED", one.master(0, 1), -1);
        Check.due("by none", Check.schooled(CHAIN + "pass 9;").master(2, 0), -1);
        Check.due("without tries", Check.schooled(CHAIN + "tries 0;").master(2, 0), -1);
    }

    private static void masterNow() {
        Check.sentence("behind how many YEARS he has PASSED (1; 0: now)");
        PupilsPupil x = Check.schooled(CHAIN + "person dan calm 1;");
        x.years(3);
        Check.due("cid has PASSED: the first there is", x.master(2, 0), 0);
        Check.due("now", x.master(2, 1), 0);
        Check.due("ann can have dan alone", x.master(0, 0), 3);
        Check.due("now", x.master(0, 1), 0);
        Check.setYear(x, 999);
        Check.due("in YEAR 999, too", x.master(2, 1), 0);
        Check.due("dan has not, in YEAR 999", x.master(3, 0), -1);
    }

    private static void masterNotBelow() {
        Check.sentence("(he being his MASTER from now on, none who is taught by him, step by step) he has PASSED soonest; "
                + "of like ones the first");
        String school = "fact f worth 1;pass 1;tries 9;person a calm 1;person b calm 1;person c calm 1;person d calm 1;"
                + "knows b f;knows c f;knows d f;";
        PupilsPupil x = Check.schooled(school);
        Check.due("b, the first of like ones", x.master(0, 0), 1);
        x.teach(1, 0);
        Check.due("not b: c", x.master(0, 0), 2);
        x.teach(2, 1);
        Check.due("nor c, step by step: d", x.master(0, 0), 3);
        x.teach(3, 2);
        Check.due("nor d: none", x.master(0, 0), -1);
        x.undo();
        x.teach(0, 3);
        Check.due("d, who is it already", x.master(0, 0), 3);
        Check.due("behind one YEAR", x.master(0, 1), 1);
        PupilsPupil y = Check.schooled("fact a worth 1;fact b worth 1;fact c worth 1;person p calm 1;person q calm 1;"
                + "person r calm 1;person s calm 1;pass 2;tries 9;knows p a;knows q c;errs q a;errs q b;knows r a;"
                + "knows r c;knows s b;");
        Check.due("by r behind one: c", y.master(0, 0), 2);
        Check.due("behind one", y.master(0, 1), 1);
        Check.due("for s: behind r's a", y.master(3, 0), 0);
        Check.due("p has but a: 1 and 1", y.master(3, 1), 1);
    }

    private static void masterChangesClass() {
        Check.sentence("(he being his MASTER from now on");
        // His class counts with him, and that of the one he leaves without.
        PupilsPupil x = Check.schooled("fact f worth 1;pass 1;tries 9;person m calm 1;person n calm 1;person p calm 1;"
                + "person q calm 1;knows m f;knows n f;taught p by m;taught q by m;takes class<2;");
        Check.due("n, whose class is he alone", x.master(2, 0), 1);
        Check.due("behind one", x.master(2, 1), 1);
        Check.due("q stays where he is", x.person(3, 1), 0);
    }

    // ---- gifts

    private static void gift() {
        Check.sentence("A GIFT for a PERSON, n YEARS AHEAD (0 .. 20): to whom (what 0), which FACT (1). "
                + "NONE when he is a DOCTOR then anyway, when there is none, n can't be, there is none such, or for others.");
        PupilsPupil x = Check.schooled(CHAIN + "sits year>16;tries 9;takes not all;");
        // In YEAR 17 cid passes, if he is told of b beside a, or is it already: so behind 18.
        x.tell(2, 0);
        for (int n = -2; n <= 25; n++) {
            for (int what = -2; what < 5; what++) {
                boolean there = n >= 18 && n <= 20 && (what == 0 || what == 1);
                Check.due("gift(0, " + n + ", " + what + ")", x.gift(0, n, what), there ? 2 - what : -1);
            }
        }
        for (int far : Check.FAR) {
            Check.due("gift(" + far + ", 20, 0)", x.gift(far, 20, 0), -1);
            Check.due("gift(0, " + far + ", 0)", x.gift(0, far, 0), -1);
            Check.due("gift(0, 20, " + far + ")", x.gift(0, 20, far), -1);
        }
        Check.due("none such", x.gift(3, 20, 0), -1);
        Check.due("none such", x.gift(-1, 20, 0), -1);
        Check.due("there is none for bob", x.gift(1, 20, 0), -1);
        Check.due("nothing is done", x.person(2, 3), 1);
        x.tell(2, 1);
        Check.due("anyway", x.gift(0, 20, 0), -1);
        Check.due("ahead of it none can be", x.gift(0, 17, 0), -1);
        PupilsPupil y = Check.schooled(CHAIN);
        y.years(3);
        Check.due("a DOCTOR now", y.gift(0, 0, 0), -1);
        Check.due("a DOCTOR now", y.gift(0, 20, 1), -1);
        PupilsPupil z = Check.schooled(CHAIN);
        z.tell(2, 0);
        z.tell(2, 1);
        Check.due("none by n 0", z.gift(0, 0, 0), -1);
    }

    private static void giftOfLeastWorth() {
        Check.sentence("A GIFT is a FACT told now to a PERSON who is not RIGHT of it, by which a told one is a DOCTOR "
                + "behind n YEARS: the one of least worth, of like ones the first PERSON, then the first FACT.");
        String people = "person a calm 1;person b calm 1;person c calm 1;person d calm 1;taught b by a;taught c by b;"
                + "taught d by b;tries 9;takes not all;pass 3;";
        PupilsPupil x = Check.schooled("fact f worth 5;fact g worth 3;fact h worth 3;fact i worth 9;" + people);
        Check.due("to the first PERSON", x.gift(0, 1, 0), 2);
        Check.due("of the least worth, the first FACT", x.gift(0, 1, 1), 1);
        PupilsPupil y = Check.schooled("fact f worth 3;fact g worth 2;fact h worth 9;" + people
                + "knows d g;knows d f;errs d h;errs c h;pass 9;");
        // d, told of h, comes to 14; c to 9, which is enough, too, and he is the first PERSON.
        Check.due("to c, who is WRONG of it", y.gift(0, 1, 0), 2);
        Check.due("h", y.gift(0, 1, 1), 2);
        PupilsPupil z = Check.schooled("fact f worth 9;fact g worth 1;" + people + "knows d f;errs d g;pass 10;");
        Check.due("d's g is of less worth", z.gift(0, 1, 0), 3);
        Check.due("g", z.gift(0, 1, 1), 1);
        PupilsPupil w = Check.schooled("fact f worth 9;fact g worth 9;" + people + "pass 9;knows c f;knows d f;"
                + "sits right=2;");
        Check.due("the first PERSON", w.gift(0, 1, 0), 2);
        Check.due("who is not RIGHT of it", w.gift(0, 1, 1), 1);
    }

    // ---- tries

    private static void law() {
        Check.sentence("TRIES, n YEARS AHEAD (0 .. 20): the number (what 0), how many are DOCTORS (1). "
                + "NONE when n can't be, or for others.");
        PupilsPupil x = Check.schooled(CHAIN);
        for (int n = -2; n <= 25; n++) {
            for (int what = -2; what < 5; what++) {
                int want = n < 0 || n > 20 || what < 0 || what > 1 ? -1 : n < 3 ? 0 : what == 0 ? 3 : 1;
                Check.due("law(" + n + ", " + what + ")", x.law(n, what), want);
            }
        }
        for (int far : Check.FAR) {
            boolean there = far >= 0 && far <= 20;
            Check.due("law(" + far + ", 0)", x.law(far, 0), there ? 3 : -1);
            Check.due("law(3, " + far + ")", x.law(3, far), -1);
        }
        Check.due("nothing is done", x.person(0, 5), 3);
        Check.due("without PEOPLE", new PupilsPupil().law(20, 0), 0);
        Check.due("without PEOPLE", new PupilsPupil().law(20, 1), 0);
        PupilsPupil last = Check.schooled(CHAIN + "sits year>16;");
        Check.due("n 20 reaches YEAR 19", last.law(20, 1), 1);
        Check.due("n 17 does not reach YEAR 17", last.law(17, 1), 0);
        Check.due("n 18 does", last.law(18, 1), 1);
    }

    private static void leastTries() {
        Check.sentence("TRIES: the least number (0 .. 9) so that, had all who have not PASSED so many tries left now, "
                + "as many as can be are DOCTORS behind n YEARS.");
        for (int must = 0; must <= 12; must++) {
            PupilsPupil x = Check.schooled(CHAIN + "sits left=" + must + " and marks>7;tries 1;");
            Check.due("left=" + must, x.law(3, 0), must >= 1 && must <= 9 ? must : 0);
            Check.due("DOCTORS", x.law(3, 1), must >= 1 && must <= 9 ? 1 : 0);
        }
        // cid learns b behind so many failures.
        for (int year = 2; year <= 12; year++) {
            PupilsPupil x = Check.schooled(CHAIN + "takes calm<25 or year=1 or year=" + year + ";");
            Check.due("passing in YEAR " + year, x.law(20, 0), year <= 8 ? year + 1 : 0);
            Check.due("DOCTORS", x.law(20, 1), year <= 8 ? 1 : 0);
        }
        PupilsPupil y = Check.schooled(CHAIN + "tries 9;");
        y.years(3);
        Check.due("a DOCTOR by 0", y.law(20, 0), 0);
        Check.due("one", y.law(20, 1), 1);
        // One who has PASSED keeps his tries, whatever the others have.
        PupilsPupil z = Check.schooled(CHAIN + "tries 1;");
        z.years(1);
        Check.due("bob's one try is gone", z.person(1, 5), 0);
        Check.due("two more would do", z.law(2, 0), 2);
        Check.due("a DOCTOR", z.law(2, 1), 1);
    }

    public static void main(String[] args) {
        later();
        lastYear();
        doctor();
        lost();
        master();
        masterNow();
        masterNotBelow();
        masterChangesClass();
        gift();
        giftOfLeastWorth();
        law();
        leastTries();
        Check.close();
    }
}
