/** Promises 1 to 5, 7 and 33: each sentence that names a bound of the tape, a fault, a letter, a refusal. */
public final class EdgeTapeTest {
    private static final String SCHOOL = "fact f worth 4;person p calm 7;person q calm 8;person r calm 9;"
            + "knows p f;taught q by p;taught r by q;pass 3;tries 5;ill 50;";

    private static void newObject() {
        Check.sentence("`PupilsPupil()`: No school, no PEOPLE.");
        PupilsPupil x = new PupilsPupil();
        for (int p = -2; p < 10; p++) {
            for (int what = -1; what < 9; what++) {
                Check.due("person(" + p + ", " + what + ")", x.person(p, what), -1);
                Check.due("fact(" + p + ", " + what + ")", x.fact(p, what), -1);
                Check.due("master(" + p + ", " + what + ")", x.master(p, what), -1);
                Check.due("gift(" + p + ", 1, " + what + ")", x.gift(p, 1, what), -1);
                Check.due("probe(" + p + ", 0, " + what + ")", x.probe(p, 0, what), -1);
                Check.due("letter(" + what + ", " + p + ", 0)", x.letter(what, p, 0), -1);
            }
            Check.due("marks(" + p + ")", x.marks(p), PupilsPupil.NOTHING);
            Check.due("next(" + p + ")", x.next(p), -1);
            Check.due("doctor(" + p + ")", x.doctor(p), -1);
            Check.due("lost(" + p + ")", x.lost(p), -1);
            Check.due("sources(" + p + ", 0)", x.sources(p, 0), -1);
            Check.due("teach(" + p + ", -1)", x.teach(p, -1), false);
            Check.due("tell(" + p + ", 0)", x.tell(p, 0), false);
            Check.due("ask(" + p + ")", Check.ask(x, p, "often all"), PupilsPupil.NOTHING);
        }
        Check.due("no row HEARD can be of anyone", Check.hear(x, 0, 0), -1);
        Check.due("an image of YEAR alone", x.image(), 3);
        Check.due("nothing is KEPT", x.kept(0, 0), -1);
    }

    private static void feedOrder() {
        Check.sentence("Twenty bytes come behind those on the tape, of each number the highest first");
        for (int sign : new int[] {'@', 0, 127, 128, 255}) {
            for (int place = 0; place < 20; place++) {
                int[] bytes = new int[20];
                java.util.Arrays.fill(bytes, ' ');
                bytes[place] = sign;
                PupilsPupil x = new PupilsPupil();
                x.feed(0x20202020, 0x0a0a0a0a, 0x200a200a, 0x20202020, 0x20202020);
                int[] five = new int[5];
                for (int k = 0; k < 20; k++) {
                    five[k / 4] = five[k / 4] << 8 | bytes[k];
                }
                Check.due("feed", x.feed(five[0], five[1], five[2], five[3], five[4]), 40);
                Check.due("school()", x.school(), -1);
                Check.due("the place of " + sign, x.fault(1), 20 + place);
            }
        }
    }

    private static void blanks(PupilsPupil x, int times) {
        for (int k = 0; k < times; k++) {
            x.feed(0x20202020, 0x20202020, 0x20202020, 0x20202020, 0x20202020);
        }
    }

    private static int feedSigns(PupilsPupil x) {
        return x.feed(0x40404040, 0x40404040, 0x40404040, 0x40404040, 0x40404040);
    }

    private static void feedFull() {
        Check.sentence("NONE, refused (0), if there would be more than 1600");
        PupilsPupil x = new PupilsPupil();
        blanks(x, 79);
        Check.due("to 1600", x.feed(0x20202020, 0x20202020, 0x20202020, 0x20202020, 0x20202020), 1600);
        Check.due("nothing is refused", x.status(0), 0);
        Check.due("to 1620", feedSigns(x), -1);
        Check.due("refused", x.status(0), 1);
        Check.due("the tape is full, and no more", x.end(1601), false);
        Check.due("1600 bytes are there", x.end(1600), true);
        Check.due("none of the refused ones is", x.school(), 0);
        Check.due("behind it 20 are 20", feedSigns(x), 20);
        for (int n = 1580; n <= 1600; n++) {
            PupilsPupil y = new PupilsPupil();
            blanks(y, 80);
            y.end(n);
            Check.due("behind " + n, feedSigns(y), n == 1580 ? 1600 : -1);
            Check.due("refused", y.status(0), n == 1580 ? 0 : 1);
            Check.due("as many as there were", y.end(n == 1580 ? 1600 : n), true);
            Check.due("and no more", y.end(n == 1580 ? 1601 : n + 1), false);
        }
    }

    private static void lastByteCounts() {
        Check.sentence("NONE, refused (0), if there would be more than 1600");
        PupilsPupil x = new PupilsPupil();
        blanks(x, 79);
        x.feed(0x20202020, 0x20202020, 0x20202020, 0x70617373, 0x2020373b);
        Check.due("a STATEMENT up to byte 1599", x.school(), 1);
        Check.due("pass", x.has(2), 7);
    }

    private static void endCuts() {
        Check.sentence("The tape has its first n bytes alone: true");
        // "pass 12;tries 7;    "
        for (int n = 0; n <= 20; n++) {
            PupilsPupil x = new PupilsPupil();
            x.feed(0x70617373, 0x2031323b, 0x74726965, 0x7320373b, 0x20202020);
            Check.due("end(" + n + ")", x.end(n), true);
            int statements = n == 0 ? 0 : n == 8 ? 1 : n >= 16 ? 2 : -1;
            Check.due("school() of " + n, x.school(), statements);
        }
        PupilsPupil y = new PupilsPupil();
        y.feed(0x70617373, 0x2031323b, 0x74726965, 0x7320373b, 0x20202020);
        y.end(6);
        Check.due("what is cut off is gone", y.end(7), false);
        y.feed(0x393b2020, 0x20202020, 0x20202020, 0x20202020, 0x20202020);
        Check.due("school()", y.school(), 1);
        Check.due("pass 1 and 9 behind it", y.has(2), 19);
    }

    private static void endRefused() {
        Check.sentence("false, refused (0), if it has not so many, or n is below 0");
        PupilsPupil x = new PupilsPupil();
        Check.due("none of none", x.end(0), true);
        Check.due("one of none", x.end(1), false);
        x.feed(0x70617373, 0x2031323b, 0x20202020, 0x20202020, 0x20202020);
        Check.due("all", x.end(20), true);
        Check.due("one more than all", x.end(21), false);
        Check.due("-1", x.end(-1), false);
        Check.due("refused", x.status(0), 3);
        int refused = 3;
        for (int n : Check.FAR) {
            if (n < 0 || n > 20) {
                Check.due("end(" + n + ")", x.end(n), false);
                refused++;
            }
        }
        Check.due("refused", x.status(0), refused);
        Check.due("the tape stays", x.school(), 1);
        Check.due("pass", x.has(2), 12);
    }

    private static void schoolTakesTheTape() {
        Check.sentence("The tape (it goes) is THE SCHOOL: how many STATEMENTS");
        PupilsPupil x = new PupilsPupil();
        Check.due("no byte at all", x.school(), 0);
        Check.due("one", Check.school(x, "pass 5;"), 1);
        Check.due("the tape is gone", x.end(1), false);
        Check.due("none: that one is gone", x.school(), 0);
        Check.due("pass without", x.has(2), 10);
        Check.due("eighty", Check.school(x, "ill 1;".repeat(80)), 80);
    }

    private static int[] allOf(PupilsPupil x) {
        int[] seen = new int[80];
        int n = 0;
        for (int k = 0; k < 11; k++) {
            seen[n++] = x.has(k);
        }
        for (int p = 0; p < 3; p++) {
            for (int k = 0; k < 8; k++) {
                seen[n++] = x.person(p, k);
            }
            for (int k = 0; k < 3; k++) {
                seen[n++] = x.letter(1, p, k);
                seen[n++] = x.kept(p, k);
                seen[n++] = x.fact(p, k);
            }
            seen[n++] = x.next(p);
            seen[n++] = x.sources(p, 1);
        }
        return seen;
    }

    private static void faultLeavesAll() {
        Check.sentence("NONE, refused (1), with a FAULT (all stays)");
        String[] faults = {"x", "pass 100;", "fact a worth 1;fact a", "takes(((((((1", "sits all;sits all;",
            SCHOOL + "@", SCHOOL + "fact g worth 9;person s calm 1;knows s g;takes 1"};
        PupilsPupil x = Check.schooled(SCHOOL);
        x.years(2);
        x.teach(2, 0);
        Check.hear(x, 2, 1);
        x.seed(77);
        int[] before = allOf(x);
        for (int k = 0; k < faults.length; k++) {
            Check.due("school of <" + faults[k] + ">", Check.school(x, faults[k]), -1);
            Check.due("refused", x.status(1), k + 1);
            Check.due("the tape is gone", x.end(1), false);
            int[] behind = allOf(x);
            for (int j = 0; j < before.length; j++) {
                Check.due("look " + j, behind[j], before[j]);
            }
        }
        Check.due("the seed and ill, too", x.chance(5), SchoolTextTest.draws(77, 15, 50));
        Check.due("undo()", x.undo() && x.undo() && x.undo(), true);
        Check.due("no more", x.undo(), false);
    }

    private static void allAsAtFirst() {
        Check.sentence("Without one all is as at first, nothing is KEPT, HEARD or can be undone; the seed stays");
        String[] texts = {"", " ", SCHOOL, "pass 1;"};
        int[][] has = {{0, 0, 10, 3}, {0, 0, 10, 3}, {1, 3, 3, 5}, {0, 0, 1, 3}};
        for (int k = 0; k < texts.length; k++) {
            PupilsPupil x = Check.schooled(SCHOOL);
            x.seed(123);
            x.years(3);
            x.teach(2, -1);
            Check.hear(x, 2, 1);
            Check.due("something is KEPT", x.has(8) > 0, true);
            Check.due("school()", Check.school(x, texts[k]) >= 0, true);
            for (int j = 0; j < 4; j++) {
                Check.due("has(" + j + ")", x.has(j), has[k][j]);
            }
            for (int j = 4; j < 11; j++) {
                Check.due("has(" + j + ")", x.has(j), 0);
            }
            Check.due("nothing KEPT", x.kept(0, 0), -1);
            Check.due("nothing can be undone", x.undo(), false);
            Check.due("MASTERS as told", x.person(2, 1), k == 2 ? 1 : -1);
            Check.school(x, "person a calm 1;ill 50;");
            Check.due("the seed stays", x.chance(30), SchoolTextTest.draws(123, 30, 50));
        }
    }

    private static void smallerSchool() {
        Check.sentence("Without one all is as at first, nothing is KEPT, HEARD or can be undone; the seed stays");
        PupilsPupil x = Check.schooled("fact f worth 1;person p calm 1;person q calm 1;person r calm 1;taught r by q;"
                + "errs q f;pass 0;tries 9;");
        x.years(1);
        Check.due("r is WRONG, too", x.has(7), 2);
        Check.school(x, "fact f worth 1;person p calm 1;person q calm 1;pass 9;");
        x.years(1);
        x.chance(1);
        Check.due("there is no r who could be", x.has(7), 0);
        Check.due("WRONG of f", x.fact(0, 2), 0);
        Check.due("RIGHT of f", x.fact(0, 1), 0);
        Check.due("later", x.later(1, 2), 0);
        Check.due("PASSED", x.has(5), 0);
        Check.due("SOURCES", x.sources(0, 0), 0);
        Check.due("PEOPLE", x.person(2, 5), -1);
        Check.due("image()", x.image(), 13);
    }

    private static void fault() {
        Check.sentence("its FAULT (what 0; 0 without, and ahead of any), its place (1; NONE without)");
        PupilsPupil x = new PupilsPupil();
        Check.due("ahead of any", x.fault(0), 0);
        Check.due("ahead of any", x.fault(1), -1);
        Check.school(x, "@");
        Check.due("a FAULT at the first byte", x.fault(0), 1);
        Check.due("its place", x.fault(1), 0);
        Check.school(x, "person p calm 1;");
        Check.due("without", x.fault(0), 0);
        Check.due("without", x.fault(1), -1);
        Check.ask(x, 0, "first @");
        Check.due("of ask()", x.fault(0), 1);
        Check.due("of ask()", x.fault(1), 6);
        Check.ask(x, 0, "first all");
        Check.due("without", x.fault(0), 0);
        Check.due("without", x.fault(1), -1);
        blanks(x, 80);
        Check.due("a text of 1600 bytes ends too soon", x.ask(0), PupilsPupil.NOTHING);
        Check.due("its place is its length", x.fault(1), 1600);
        Check.sentence("NONE for another what.");
        for (int what : Check.FAR) {
            Check.due("fault(" + what + ")", x.fault(what), -1);
        }
        Check.due("fault(2)", x.fault(2), -1);
        Check.due("fault(-1)", x.fault(-1), -1);
    }

    private static void letters() {
        Check.sentence("Letter k (0 .. 5) of the NAME of a FACT (kind 0), a PERSON (1): 1 .. 26; 0 behind it; "
                + "NONE when there is none such.");
        PupilsPupil x = Check.schooled("fact a worth 1;fact zzzzzz worth 1;person z calm 1;person abcxyz calm 1;"
                + "person m calm 1;");
        int[][][] want = {{{1, 0, 0, 0, 0, 0}, {26, 26, 26, 26, 26, 26}},
            {{26, 0, 0, 0, 0, 0}, {1, 2, 3, 24, 25, 26}, {13, 0, 0, 0, 0, 0}}};
        for (int kind = -1; kind < 3; kind++) {
            for (int which = -1; which < 9; which++) {
                for (int k = -1; k < 8; k++) {
                    boolean there = kind >= 0 && kind < 2 && which >= 0 && which < want[kind].length && k >= 0 && k < 6;
                    Check.due("letter(" + kind + ", " + which + ", " + k + ")", x.letter(kind, which, k),
                            there ? want[kind][which][k] : -1);
                }
            }
        }
        for (int far : Check.FAR) {
            Check.due("letter(" + far + ", 0, 0)", x.letter(far, 0, 0), -1);
            Check.due("letter(0, " + far + ", 0)", x.letter(0, far, 0), -1);
            Check.due("letter(1, " + far + ", 0)", x.letter(1, far, 0), -1);
            Check.due("letter(0, 0, " + far + ")", x.letter(0, 0, far), -1);
            Check.due("letter(1, 0, " + far + ")", x.letter(1, 0, far), -1);
        }
    }

    private static void refuseOnce(PupilsPupil x, int call) {
        switch (call) {
            case 0: x.end(-1); break;
            case 1: x.end(1); break;
            case 2: x.school(); Check.school(x, "x"); break;
            case 3: x.hear(); break;
            case 4: x.teach(0, 0); break;
            case 5: x.tell(8, 0); break;
            case 6: x.years(0); break;
            case 7: x.chance(0); break;
            case 8: x.undo(); break;
            case 9: x.seed(-1); break;
            default: x.on(); break;
        }
    }

    private static void status() {
        Check.sentence("0 feed(), end(); 1 school(), hear(); 2 teach(), tell(); 3 years(), chance(); 4 undo(); "
                + "5 seed(), on(). NONE for others.");
        int[] kinds = {0, 0, 1, 1, 2, 2, 3, 3, 4, 5, 5};
        for (int call = 0; call < kinds.length; call++) {
            PupilsPupil x = new PupilsPupil();
            for (int times = 1; times <= 3; times++) {
                refuseOnce(x, call);
                for (int k = 0; k < 6; k++) {
                    Check.due("status(" + k + ") by call " + call, x.status(k), k == kinds[call] ? times : 0);
                }
            }
        }
        PupilsPupil y = new PupilsPupil();
        blanks(y, 83);
        Check.due("status(0) by feed()", y.status(0), 3);
        for (int what : Check.FAR) {
            Check.due("status(" + what + ")", y.status(what), -1);
        }
        Check.due("status(6)", y.status(6), -1);
        Check.due("status(-1)", y.status(-1), -1);
    }

    private static void notRefusals() {
        Check.sentence("How many were refused:");
        PupilsPupil x = Check.schooled(SCHOOL);
        x.tell(1, 0);
        x.teach(1, -1);
        x.years(1);
        x.chance(1);
        x.undo();
        x.seed(0);
        Check.hear(x, 0, 0);
        Check.on(x, Check.imageOf(x));
        Check.ask(x, 0, "@");
        Check.ask(x, 9, "@");
        for (int far : Check.FAR) {
            x.later(far, far);
            x.master(far, far);
            x.gift(far, far, far);
            x.law(far, far);
            x.sources(far, far);
            x.probe(far, far, far);
            x.part(far, far);
            x.doctor(far);
            x.lost(far);
            x.octet(far);
            x.kept(far, far);
            x.has(far);
            x.fault(far);
            x.status(far);
        }
        for (int k = 0; k < 6; k++) {
            Check.due("status(" + k + ") without a refusal", x.status(k), 0);
        }
    }

    public static void main(String[] args) {
        newObject();
        feedOrder();
        feedFull();
        lastByteCounts();
        endCuts();
        endRefused();
        schoolTakesTheTape();
        faultLeavesAll();
        allAsAtFirst();
        smallerSchool();
        fault();
        letters();
        status();
        notRefusals();
        Check.close();
    }
}
