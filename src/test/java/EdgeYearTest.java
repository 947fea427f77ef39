/** Terms II, promises 6, 8 to 12, 25, 26, 28: each sentence that names a bound of what is so, and of years. */
public final class EdgeYearTest {
    private static final String CHAIN = YearTest.CHAIN;

    /** So many people, each taught by the one ahead; the first one knows the only fact. */
    private static String line(int people) {
        StringBuilder s = new StringBuilder("fact f worth 1;pass 1;tries 9;");
        for (int k = 0; k < people; k++) {
            s.append("person p").append((char) ('a' + k)).append(" calm 1;");
        }
        for (int k = 1; k < people; k++) {
            s.append("taught p").append((char) ('a' + k)).append(" by p").append((char) ('a' + k - 1)).append(";");
        }
        return s.append("knows pa f;").toString();
    }

    // ---- what is so

    private static void has() {
        Check.sentence("10 ACTS that can be undone. NONE for others.");
        PupilsPupil x = Check.schooled(CHAIN);
        Check.due("has(0)", x.has(0), 2);
        Check.due("has(10)", x.has(10), 0);
        Check.due("has(11)", x.has(11), -1);
        Check.due("has(-1)", x.has(-1), -1);
        for (int what : Check.FAR) {
            Check.due("has(" + what + ")", x.has(what), -1);
        }
    }

    private static void hasAtMost() {
        Check.sentence("7 WRONG beliefs of all together");
        StringBuilder s = new StringBuilder();
        for (char c = 'a'; c <= 'h'; c++) {
            s.append("fact ").append(c).append("f worth 9;person ").append(c).append("p calm 99;");
        }
        PupilsPupil x = Check.schooled(s + "pass 0;");
        Check.due("none", x.has(7), 0);
        int[] image = Check.imageOf(x);
        for (int p = 0; p < 8; p++) {
            image[2 + 5 * p + 2] = 255;
            image[2 + 5 * p + 4] = 3;
        }
        Check.due("on()", Check.on(x, Check.summed(image)), true);
        Check.due("all of all", x.has(7), 64);
        Check.due("all have PASSED", x.has(5), 8);
        Check.due("all are DOCTORS", x.has(6), 8);
        for (int k = 0; k < 8; k++) {
            Check.due("fact(" + k + ", 1)", x.fact(k, 1), 0);
            Check.due("fact(" + k + ", 2)", x.fact(k, 2), 8);
            Check.due("person(" + k + ", 3)", x.person(k, 3), 0);
            Check.due("person(" + k + ", 4)", x.person(k, 4), 255);
        }
        Check.due("later: all WRONG", x.later(0, 2), 64);
        Check.due("later: none RIGHT", x.later(40, 3), 0);
    }

    private static void fact() {
        Check.sentence("Of a FACT: 0 its worth, 1 how many are RIGHT of it, 2 WRONG of it. "
                + "NONE when there is none such, or for others.");
        PupilsPupil x = Check.schooled(CHAIN + "errs cid a;");
        int[][] want = {{3, 1, 1}, {5, 1, 0}};
        for (int f = -1; f < 9; f++) {
            for (int what = -1; what < 5; what++) {
                boolean there = f >= 0 && f < 2 && what >= 0 && what < 3;
                Check.due("fact(" + f + ", " + what + ")", x.fact(f, what), there ? want[f][what] : -1);
            }
        }
        for (int far : Check.FAR) {
            Check.due("fact(" + far + ", 0)", x.fact(far, 0), -1);
            Check.due("fact(0, " + far + ")", x.fact(0, far), -1);
        }
    }

    private static void person() {
        Check.sentence("6 whether he has PASSED, 7 whether he is a DOCTOR. NONE when there is none such, or for others.");
        PupilsPupil x = Check.schooled(CHAIN + "errs cid a;");
        int[][] want = {{10, -1, 2, 3, 0, 3, 0, 0}, {20, 0, 4, 0, 0, 3, 0, 0}, {30, 1, 0, 0, 1, 3, 0, 0}};
        for (int p = -1; p < 9; p++) {
            for (int what = -1; what < 10; what++) {
                boolean there = p >= 0 && p < 3 && what >= 0 && what < 8;
                Check.due("person(" + p + ", " + what + ")", x.person(p, what), there ? want[p][what] : -1);
            }
        }
        for (int far : Check.FAR) {
            Check.due("person(" + far + ", 0)", x.person(far, 0), -1);
            Check.due("person(0, " + far + ")", x.person(0, far), -1);
        }
        Check.sentence("1 his MASTER (NONE), 2 his PUPILS, as bits");
        PupilsPupil y = Check.schooled(line(8));
        for (int p = 0; p < 8; p++) {
            Check.due("the MASTER of " + p, y.person(p, 1), p - 1);
            Check.due("the PUPILS of " + p, y.person(p, 2), p < 7 ? 1 << p + 1 : 0);
        }
        for (int p = 2; p < 8; p++) {
            y.teach(p, 0);
        }
        Check.due("seven PUPILS", y.person(0, 2), 254);
        for (int p = 1; p < 8; p++) {
            y.teach(p, -1);
        }
        for (int p = 0; p < 7; p++) {
            y.teach(p, 7);
        }
        Check.due("the first one among them", y.person(7, 2), 127);
        for (int p = 0; p < 7; p++) {
            y.teach(p, -1);
        }
        Check.due("no MASTER", y.person(0, 1), -1);
        Check.due("no PUPILS", y.person(7, 2), 0);
    }

    private static void marks() {
        Check.sentence("MARKS of a PERSON; NOTHING when there is none such.");
        PupilsPupil x = Check.schooled(CHAIN);
        for (int far : Check.FAR) {
            Check.due("marks(" + far + ")", x.marks(far), PupilsPupil.NOTHING);
        }
        Check.due("marks(3)", x.marks(3), PupilsPupil.NOTHING);
        Check.due("marks(-1)", x.marks(-1), PupilsPupil.NOTHING);
        Check.due("0 of none", x.marks(1), 0);
        Check.sentence("less worth of those of which he is WRONG (below 0, too)");
        StringBuilder s = new StringBuilder("person r calm 1;person w calm 1;person m calm 1;");
        for (char c = 'a'; c <= 'h'; c++) {
            s.append("fact f").append(c).append(" worth 9;knows r f").append(c).append(";errs w f").append(c).append(";");
        }
        PupilsPupil y = Check.schooled(s + "knows m fa;errs m fb;errs m fh;");
        Check.due("the most", y.marks(0), 72);
        Check.due("the least", y.marks(1), -72);
        Check.due("both", y.marks(2), -9);
        PupilsPupil z = Check.schooled("person p calm 1;fact f worth 1;errs p f;");
        Check.due("-1 is a number", z.marks(0), -1);
    }

    private static void next() {
        Check.sentence("Which FACT a PUPIL will be taught in the next YEAR; NONE for none, when he has no MASTER, "
                + "or there is none such.");
        PupilsPupil x = Check.schooled(CHAIN + "person dan calm 1;");
        Check.due("no MASTER", x.next(0), -1);
        Check.due("FACT 0", x.next(1), 0);
        Check.due("nothing that his MASTER knows", x.next(2), -1);
        Check.due("no MASTER, no PUPIL", x.next(3), -1);
        Check.due("none such", x.next(4), -1);
        Check.due("none such", x.next(-1), -1);
        for (int far : Check.FAR) {
            Check.due("next(" + far + ")", x.next(far), -1);
        }
        x.years(2);
        Check.due("all is learnt", x.next(1), -1);
        PupilsPupil y = Check.schooled(CHAIN + "takes not all;");
        Check.due("by the law none", y.next(1), -1);
    }

    private static void lastFactIsTaught() {
        Check.sentence("the first by numbers, of those of which his MASTER is RIGHT or WRONG, and the PUPIL is neither, "
                + "or is WRONG while the MASTER is RIGHT");
        String[] told = {"", "knows", "errs"};
        // By what the MASTER is, then the PUPIL: 0 neither, 1 RIGHT, 2 WRONG; and what he is then.
        boolean[][] taught = {{false, false, false}, {true, false, true}, {true, false, false}};
        int[][] then = {{0, 1, 2}, {1, 1, 1}, {2, 1, 2}};
        for (int m = 0; m < 3; m++) {
            for (int p = 0; p < 3; p++) {
                for (int f = 0; f < 8; f++) {
                    StringBuilder s = new StringBuilder("person m calm 1;person p calm 1;taught p by m;tries 0;");
                    for (int k = 0; k < 8; k++) {
                        s.append("fact f").append((char) ('a' + k)).append(" worth 1;");
                    }
                    String name = " f" + (char) ('a' + f) + ";";
                    s.append(m == 0 ? "" : told[m] + " m" + name).append(p == 0 ? "" : told[p] + " p" + name);
                    PupilsPupil x = Check.schooled(s.toString());
                    Check.due("MASTER " + m + ", PUPIL " + p, x.next(1), taught[m][p] ? f : -1);
                    x.years(1);
                    Check.due("RIGHT then", x.person(1, 3), then[m][p] == 1 ? 1 << f : 0);
                    Check.due("WRONG then", x.person(1, 4), then[m][p] == 2 ? 1 << f : 0);
                    Check.due("the MASTER stays", x.person(0, 3) + 1000 * x.person(0, 4),
                            m == 0 ? 0 : m == 1 ? 1 << f : 1000 << f);
                }
            }
        }
    }

    private static void classes() {
        Check.sentence("how many PUPILS his MASTER has; how calm the MASTER is");
        StringBuilder people = new StringBuilder("fact f worth 1;");
        for (int k = 0; k < 8; k++) {
            people.append("person p").append((char) ('a' + k)).append(" calm ").append(k == 7 ? 99 : 0).append(";");
        }
        for (int pupils = 1; pupils <= 7; pupils++) {
            for (int law = 0; law <= 8; law++) {
                PupilsPupil x = Check.schooled(people + "knows ph f;takes class=" + law + " and mcalm=99;");
                for (int k = 0; k < pupils; k++) {
                    x.teach(k, 7);
                }
                Check.due(pupils + " PUPILS, class=" + law, x.next(0), pupils == law ? 0 : -1);
                Check.due("the last of them", x.next(pupils - 1), pupils == law ? 0 : -1);
            }
        }
    }

    private static void kept() {
        Check.sentence("Of what is told as KEPT, the k-th from the oldest on: 0 YEAR, 1 PERSON, "
                + "2 what he became (1, 2). NONE when there is none such, or for others.");
        PupilsPupil x = Check.schooled(CHAIN);
        Check.due("nothing is KEPT", x.kept(0, 0), -1);
        x.years(3);
        int[][] want = {{0, 0, 1}, {1, 1, 1}, {2, 2, 1}, {2, 0, 2}};
        for (int k = -1; k < 33; k++) {
            for (int what = -1; what < 5; what++) {
                boolean there = k >= 0 && k < 4 && what >= 0 && what < 3;
                Check.due("kept(" + k + ", " + what + ")", x.kept(k, what), there ? want[k][what] : -1);
            }
        }
        for (int far : Check.FAR) {
            Check.due("kept(" + far + ", 0)", x.kept(far, 0), -1);
            Check.due("kept(0, " + far + ")", x.kept(0, far), -1);
        }
    }

    private static void keptAtMost() {
        Check.sentence("the last 30 are told");
        // One passes once and becomes a doctor once, and an image lets go what is kept: 16 is the most of 8 people.
        PupilsPupil x = Check.schooled(line(8));
        x.years(100);
        Check.due("8 PASSED, 6 of them DOCTORS", x.has(8), 14);
        x.teach(1, -1);
        x.teach(0, 7);
        x.years(1);
        Check.due("pg by ph and pa", x.has(8), 15);
        x.teach(0, -1);
        x.teach(1, 0);
        x.teach(7, -1);
        x.teach(0, 7);
        x.years(1);
        Check.due("all there can be", x.has(8), 16);
        for (int k = 0; k < 16; k++) {
            Check.due("kept(" + k + ", 2)", x.kept(k, 2), k == 0 || k == 1 || k == 2 || k < 14 && k % 2 == 0 ? 1 : 2);
        }
        Check.due("kept(14, 1)", x.kept(14, 1), 6);
        Check.due("kept(14, 0)", x.kept(14, 0), 100);
        Check.due("kept(15, 1)", x.kept(15, 1), 7);
        Check.due("kept(15, 0)", x.kept(15, 0), 101);
        Check.due("kept(16, 0)", x.kept(16, 0), -1);
        Check.setYear(x, 5);
        Check.due("nothing behind on()", x.kept(0, 0), -1);
    }

    private static void passedAreFirst() {
        Check.sentence("KEPT is who PASSED, who became a DOCTOR: YEAR, PERSON, 1 PASSED, 2 a DOCTOR "
                + "(of a YEAR first all who PASSED)");
        PupilsPupil x = Check.schooled("fact f worth 1;pass 0;person c calm 1;person b calm 1;person a calm 1;"
                + "person z calm 1;taught c by b;taught b by a;taught a by z;");
        Check.due("all four", x.years(1), 4);
        int[][] want = {{0, 1}, {1, 1}, {2, 1}, {3, 1}, {2, 2}, {3, 2}};
        Check.due("KEPT", x.has(8), 6);
        for (int k = 0; k < 6; k++) {
            Check.due("YEAR", x.kept(k, 0), 0);
            Check.due("PERSON", x.kept(k, 1), want[k][0]);
            Check.due("what", x.kept(k, 2), want[k][1]);
        }
    }

    // ---- years

    private static void atFirst() {
        Check.sentence("It is YEAR 0 at first; none has PASSED, none is a DOCTOR, all have as many tries as told.");
        for (int tries = 0; tries <= 9; tries++) {
            PupilsPupil x = Check.schooled("tries 1;person p calm 1;tries " + tries + ";person q calm 1;pass 0;");
            Check.due("YEAR", x.has(4), 0);
            Check.due("PASSED", x.has(5), 0);
            Check.due("DOCTORS", x.has(6), 0);
            Check.due("tries of p", x.person(0, 5), tries);
            Check.due("tries of q", x.person(1, 5), tries);
        }
    }

    private static void enough() {
        Check.sentence("he has PASSED, if his MARKS are at least pass; else he has one try less");
        for (int worth = 1; worth <= 9; worth++) {
            for (int pass = 0; pass <= 10; pass++) {
                PupilsPupil x = Check.schooled("fact f worth " + worth + ";person p calm 1;knows p f;tries 2;pass "
                        + pass + ";");
                Check.due(worth + " of " + pass, x.years(1), worth >= pass ? 1 : 0);
                Check.due("tries left", x.person(0, 5), worth >= pass ? 2 : 1);
            }
        }
        PupilsPupil x = Check.schooled("fact f worth 1;person p calm 1;person q calm 1;errs p f;pass 0;");
        Check.due("-1 of 0 is not, 0 of 0 is enough", x.years(1), 1);
        Check.due("who", x.kept(0, 1), 1);
    }

    private static void triesEnd() {
        Check.sentence("THEN each PERSON who has not PASSED and has tries left sits for the EXAMINATION");
        for (int tries = 0; tries <= 9; tries++) {
            PupilsPupil x = Check.schooled("fact f worth 9;person p calm 1;pass 9;tries " + tries + ";");
            for (int k = 1; k <= 11; k++) {
                x.years(1);
                Check.due("tries left", x.person(0, 5), Math.max(0, tries - k));
            }
            x.tell(0, 0);
            Check.due("without tries none sits", x.years(1), 0);
            PupilsPupil y = Check.schooled("fact f worth 9;person p calm 1;pass 9;tries " + tries + ";");
            for (int k = 1; k < tries; k++) {
                y.years(1);
            }
            y.tell(0, 0);
            Check.due("by the last try", y.years(1), tries > 0 ? 1 : 0);
            Check.due("it is left", y.person(0, 5), tries > 0 ? 1 : 0);
            y.years(5);
            Check.due("one who has PASSED sits no more", y.person(0, 5), tries > 0 ? 1 : 0);
        }
        // p passes by a, and is then taught b, wrongly: he has passed all the same.
        PupilsPupil z = Check.schooled("fact a worth 1;fact b worth 9;person m calm 1;person p calm 1;taught p by m;"
                + "errs m b;knows p a;pass 1;sits calm=1 and year<1 or year>1;takes year=1;tries 5;");
        z.years(1);
        Check.due("PASSED", z.person(1, 6), 1);
        z.years(5);
        Check.due("WRONG of b", z.marks(1), -8);
        Check.due("PASSED still", z.person(1, 6), 1);
        Check.due("no try less", z.person(1, 5), 5);
    }

    private static void withoutLaws() {
        Check.sentence("for which the TEST of takes holds (without it always)");
        PupilsPupil x = Check.schooled(CHAIN);
        Check.due("without", x.next(1), 0);
        Check.sentence("or if the TEST of garble holds (without it never); RIGHT, if not.");
        x.years(10);
        Check.due("all RIGHT", x.person(1, 3) + x.person(2, 3), 6);
        Check.due("none WRONG", x.has(7), 0);
        Check.sentence("if the TEST of sits holds (without it always; by what is so now)");
        PupilsPupil y = Check.schooled(CHAIN + "sits not all;");
        y.years(10);
        Check.due("none sits", y.has(5), 0);
        Check.due("no try less", y.person(2, 5), 3);
        PupilsPupil z = Check.schooled(CHAIN + "sits right=1 and marks=3 and left=3 and year=0;");
        Check.due("bob sits by what he was taught in this YEAR", z.years(1), 0);
        Check.due("tries left", z.person(1, 5), 2);
        Check.due("of cid", z.person(2, 5), 3);
    }

    private static void doctors() {
        Check.sentence("LAST who is MASTER of a MASTER of one who has PASSED is a DOCTOR (and stays it)");
        PupilsPupil x = Check.schooled("fact f worth 1;pass 1;tries 9;person a calm 1;person b calm 1;person c calm 1;"
                + "person d calm 1;taught b by a;taught c by b;taught d by c;sits calm=1 and left=9 and marks=1;");
        x.tell(3, 0);
        x.years(1);
        Check.due("not the MASTER", x.person(2, 7), 0);
        Check.due("the MASTER's MASTER", x.person(1, 7), 1);
        Check.due("none above him", x.person(0, 7), 0);
        Check.due("nor himself", x.person(3, 7), 0);
        x.teach(3, -1);
        x.teach(2, -1);
        x.years(1);
        Check.due("he stays it", x.person(1, 7), 1);
        Check.due("once", x.has(8), 2);
    }

    private static void lastYear() {
        Check.sentence("The YEAR is one more (999 at most).");
        PupilsPupil x = Check.schooled(CHAIN);
        Check.setYear(x, 997);
        Check.due("to 998", x.years(1), 1);
        Check.due("YEAR", x.has(4), 998);
        Check.due("two more can't be", x.years(2), -1);
        Check.due("to 999", x.years(1), 1);
        Check.due("YEAR", x.has(4), 999);
        Check.due("years(1)", x.years(1), -1);
        Check.due("chance(1)", x.chance(1), -1);
        Check.due("YEAR", x.has(4), 999);
        Check.due("none PASSED in it", x.has(5), 2);
        Check.due("undo()", x.undo(), true);
        Check.due("YEAR", x.has(4), 998);
        Check.due("to 999 by the seed", x.chance(1), 0);
        Check.due("YEAR", x.has(4), 999);
    }

    private static void years() {
        Check.sentence("n YEARS (1 .. 100): how many PASSED; NONE, refused (3), when it can't be.");
        int[] bad = {0, -1, 101, 102, 1000};
        PupilsPupil x = Check.schooled(CHAIN + "ill 50;");
        int refused = 0;
        for (int n : bad) {
            Check.due("years(" + n + ")", x.years(n), -1);
            Check.due("refused", x.status(3), ++refused);
        }
        for (int n : Check.FAR) {
            if (n < 1 || n > 100) {
                Check.due("years(" + n + ")", x.years(n), -1);
                Check.due("refused", x.status(3), ++refused);
            }
        }
        Check.due("nothing is done", x.has(4) + x.has(5) + x.has(8) + x.has(10), 0);
        Check.due("years(100)", x.years(100), 3);
        Check.due("YEAR", x.has(4), 100);
        Check.due("one ACT", x.has(10), 1);
        for (int year = 898; year <= 999; year++) {
            Check.setYear(x, year);
            Check.due("years(100) in " + year, x.years(100), year <= 899 ? 0 : -1);
            Check.setYear(x, year);
            Check.due("years(" + (1000 - year) + ") in " + year, x.years(1000 - year), -1);
            Check.due("all stays", x.has(4), year);
            if (year >= 899 && year < 999) {
                Check.due("years(" + (999 - year) + ") in " + year, x.years(999 - year), 0);
                Check.due("YEAR", x.has(4), 999);
            }
        }
        PupilsPupil y = new PupilsPupil();
        Check.due("without PEOPLE", y.years(100), 0);
        Check.due("YEAR", y.has(4), 100);
    }

    private static void chance() {
        Check.sentence("n YEARS by the seed (1 .. 100), one ACT: how often one was ill; "
                + "NONE, refused (3), when it can't be.");
        int[] bad = {0, -1, 101, 102, 1000};
        PupilsPupil x = Check.schooled(CHAIN + "ill 50;");
        int refused = 0;
        for (int n : bad) {
            Check.due("chance(" + n + ")", x.chance(n), -1);
            Check.due("refused", x.status(3), ++refused);
        }
        for (int n : Check.FAR) {
            if (n < 1 || n > 100) {
                Check.due("chance(" + n + ")", x.chance(n), -1);
                Check.due("refused", x.status(3), ++refused);
            }
        }
        Check.due("nothing is done", x.has(4) + x.has(5) + x.has(8) + x.has(10), 0);
        Check.due("chance(100), the seed being 1 still", x.chance(100), SchoolTextTest.draws(1, 300, 50));
        Check.due("YEAR", x.has(4), 100);
        Check.due("one ACT", x.has(10), 1);
        Check.due("chance(1)", x.chance(1), SchoolTextTest.draws(1, 303, 50) - SchoolTextTest.draws(1, 300, 50));
        Check.setYear(x, 900);
        Check.due("chance(100) in 900", x.chance(100), -1);
        Check.due("the seed stays, too", x.chance(99),
                SchoolTextTest.draws(1, 600, 50) - SchoolTextTest.draws(1, 303, 50));
        Check.due("YEAR", x.has(4), 999);
        PupilsPupil y = new PupilsPupil();
        Check.due("without PEOPLE", y.chance(100), 0);
    }

    private static void draws() {
        Check.sentence("ahead of each a DRAW of 100 for each PERSON: below ill he is not taught, and does not sit, in it");
        for (int ill = 0; ill <= 100; ill++) {
            PupilsPupil x = Check.schooled("person p calm 1;ill " + ill + ";tries 9;pass 1;");
            long seed = 1;
            for (int k = 0; k < 4; k++) {
                seed = (1103515245L * seed + 12345) % 2147483648L;
                boolean away = seed / 64 % 100 < ill;
                int left = x.person(0, 5);
                Check.due("ill below " + ill, x.chance(1), away ? 1 : 0);
                Check.due("sits", x.person(0, 5), away ? left : left - 1);
            }
        }
        // The first draw by seed 1 is 18.
        Check.due("18 is not below 18", Check.schooled("person p calm 1;ill 18;").chance(1), 0);
        Check.due("18 is below 19", Check.schooled("person p calm 1;ill 19;").chance(1), 1);
        // The first draw by seed 42 is 0, by 85 it is 1, by 76 it is 98, by 119 it is 99.
        int[][] first = {{42, 0, 0}, {42, 1, 1}, {85, 1, 0}, {85, 2, 1}, {76, 98, 0}, {76, 99, 1}, {119, 99, 0},
            {119, 100, 1}};
        for (int[] of : first) {
            PupilsPupil x = Check.schooled("person p calm 1;ill " + of[1] + ";");
            x.seed(of[0]);
            Check.due("by seed " + of[0] + ", ill " + of[1], x.chance(1), of[2]);
        }
        PupilsPupil y = Check.schooled("person p calm 1;person q calm 1;pass 0;");
        y.years(1);
        y.chance(3);
        Check.school(y, "person p calm 1;ill 50;");
        Check.due("drawn for all, for none to be ill, too", y.chance(40),
                SchoolTextTest.draws(1, 46, 50) - SchoolTextTest.draws(1, 6, 50));
        PupilsPupil z = Check.schooled(CHAIN + "ill 50;");
        z.years(3);
        z.later(40, 0);
        z.master(2, 0);
        z.gift(1, 20, 0);
        z.law(20, 0);
        Check.due("YEARS without DRAWS leave the seed", z.chance(9), SchoolTextTest.draws(1, 27, 50));
    }

    private static void wrapAround() {
        Check.sentence("A DRAW of m: x (the seed) becomes (1103515245 x + 12345) mod 2 to the 31; floor(x / 64) mod m.");
        int[] seeds = {0, 1, 2, 3, 63, 64, 65, 12345, 65535, 65536, 1 << 30, (1 << 30) - 1, 1103515245,
            Integer.MAX_VALUE - 1, Integer.MAX_VALUE};
        for (int seed : seeds) {
            for (int ill = 5; ill < 100; ill += 9) {
                PupilsPupil x = Check.schooled("person p calm 1;person q calm 1;person r calm 1;ill " + ill + ";");
                Check.due("seed(" + seed + ")", x.seed(seed), true);
                Check.due("by seed " + seed + ", ill " + ill, x.chance(50), SchoolTextTest.draws(seed, 150, ill));
            }
        }
    }

    private static void seed() {
        Check.sentence("The seed: true; false, refused (5), when it is below 0. (It is 1 at first.)");
        PupilsPupil x = Check.schooled(CHAIN + "ill 50;");
        Check.due("seed(0)", x.seed(0), true);
        Check.due("seed(MAX)", x.seed(Integer.MAX_VALUE), true);
        Check.due("nothing is refused", x.status(5), 0);
        Check.due("seed(44)", x.seed(44), true);
        Check.due("seed(-1)", x.seed(-1), false);
        Check.due("seed(MIN)", x.seed(Integer.MIN_VALUE), false);
        Check.due("refused", x.status(5), 2);
        Check.due("no ACT", x.has(10), 0);
        Check.due("44 stays", x.chance(20), SchoolTextTest.draws(44, 60, 50));
        PupilsPupil y = Check.schooled(CHAIN + "ill 50;");
        Check.due("1 at first", y.chance(20), SchoolTextTest.draws(1, 60, 50));
    }

    public static void main(String[] args) {
        has();
        hasAtMost();
        fact();
        person();
        marks();
        next();
        lastFactIsTaught();
        classes();
        kept();
        keptAtMost();
        passedAreFirst();
        atFirst();
        enough();
        triesEnd();
        withoutLaws();
        doctors();
        lastYear();
        years();
        chance();
        draws();
        wrapAround();
        seed();
        Check.close();
    }
}
