/** Promises 23, 24, 27, 28: masters changed, facts told, acts undone, the seed. */
public final class ActsTest {
    private static final String CHAIN = YearTest.CHAIN;

    private static void teach() {
        PupilsPupil x = Check.schooled(CHAIN + "person dan calm 5;");
        Check.due("it is so already", x.teach(1, 0), false);
        Check.due("none already", x.teach(0, -1), false);
        Check.due("himself", x.teach(1, 1), false);
        Check.due("a pupil", x.teach(0, 1), false);
        Check.due("a pupil's pupil", x.teach(0, 2), false);
        Check.due("none such", x.teach(4, 0), false);
        Check.due("none such", x.teach(-1, 0), false);
        Check.due("no such MASTER", x.teach(0, 4), false);
        Check.due("no such MASTER", x.teach(0, -2), false);
        Check.due("status(2)", x.status(2), 9);
        Check.due("nothing to undo", x.has(10), 0);
        Check.due("another one", x.teach(2, 3), true);
        Check.due("cid's MASTER", x.person(2, 1), 3);
        Check.due("dan's PUPILS", x.person(3, 2), 4);
        Check.due("bob's PUPILS", x.person(1, 2), 0);
        Check.due("none", x.teach(1, -1), true);
        Check.due("bob's MASTER", x.person(1, 1), -1);
        Check.due("now cid can teach ann", x.teach(0, 2), true);
        Check.due("but she can't teach dan", x.teach(3, 0), false);
        Check.due("ACTS", x.has(10), 3);
    }

    private static void tell() {
        PupilsPupil x = Check.schooled(CHAIN + "errs cid b;");
        Check.due("he is RIGHT", x.tell(0, 0), false);
        Check.due("none such", x.tell(3, 0), false);
        Check.due("none such", x.tell(-1, 0), false);
        Check.due("no such FACT", x.tell(0, 2), false);
        Check.due("no such FACT", x.tell(0, -1), false);
        Check.due("status(2)", x.status(2), 5);
        Check.due("one who is neither", x.tell(1, 1), true);
        Check.due("RIGHT", x.person(1, 3), 2);
        Check.due("one who is WRONG", x.tell(2, 1), true);
        Check.due("RIGHT", x.person(2, 3), 2);
        Check.due("not WRONG", x.person(2, 4), 0);
        Check.due("twice", x.tell(2, 1), false);
        Check.due("marks", x.marks(2), 5);
        Check.due("ACTS", x.has(10), 2);
        Check.due("none PASSED by it", x.has(5) + x.has(8), 0);
    }

    private static void undo() {
        PupilsPupil x = Check.schooled(CHAIN);
        Check.due("none can be", x.undo(), false);
        Check.due("status(4)", x.status(4), 1);
        x.teach(2, 0);
        x.tell(2, 1);
        x.years(2);
        x.years(3);
        Check.due("KEPT", x.has(8), 3);
        Check.due("YEAR", x.has(4), 5);
        Check.due("undo years(3)", x.undo(), true);
        Check.due("YEAR", x.has(4), 2);
        Check.due("undo years(2)", x.undo(), true);
        Check.due("YEAR", x.has(4), 0);
        Check.due("KEPT", x.has(8), 0);
        Check.due("PASSED", x.has(5), 0);
        Check.due("tries", x.person(1, 5), 3);
        Check.due("told still", x.person(2, 3), 2);
        Check.due("undo tell", x.undo(), true);
        Check.due("not told", x.person(2, 3), 0);
        Check.due("taught by ann still", x.person(2, 1), 0);
        Check.due("undo teach", x.undo(), true);
        Check.due("taught by bob", x.person(2, 1), 1);
        Check.due("none can be", x.undo(), false);
        Check.due("status(4)", x.status(4), 2);
    }

    private static void lastTwenty() {
        PupilsPupil x = Check.schooled(CHAIN);
        for (int k = 1; k <= 47; k++) {
            x.years(1);
            Check.due("ACTS", x.has(10), Math.min(k, 20));
        }
        for (int k = 46; k >= 27; k--) {
            Check.due("undo", x.undo(), true);
            Check.due("YEAR", x.has(4), k);
        }
        Check.due("no more", x.undo(), false);
        for (int k = 0; k < 25; k++) {
            x.years(1);
        }
        x.undo();
        Check.due("YEAR", x.has(4), 51);
        Check.due("ACTS", x.has(10), 19);
    }

    private static void refusedOnesAreNoActs() {
        PupilsPupil x = Check.schooled(CHAIN);
        x.years(1);
        x.years(0);
        x.chance(0);
        x.teach(0, 0);
        x.tell(0, 0);
        Check.school(x, "x");
        x.hear();
        x.on();
        x.seed(-1);
        Check.due("ACTS", x.has(10), 1);
        Check.due("undo", x.undo(), true);
        Check.due("YEAR", x.has(4), 0);
    }

    private static void seedStays() {
        PupilsPupil x = Check.schooled(CHAIN + "ill 50;");
        Check.due("seed", x.seed(9), true);
        Check.due("no ACT", x.has(10), 0);
        int first = x.chance(5);
        Check.due("by seed 9", first, SchoolTextTest.draws(9, 15, 50));
        x.undo();
        Check.due("on by the seed", x.chance(5) + first, SchoolTextTest.draws(9, 30, 50));
        Check.due("the image comes back", Check.on(x, Check.imageOf(x)), true);
        int twice = SchoolTextTest.draws(9, 30, 50);
        Check.due("on by the seed", x.chance(5) + twice, SchoolTextTest.draws(9, 45, 50));
        PupilsPupil y = Check.schooled(CHAIN + "ill 50;");
        Check.due("1 at first", y.chance(9), SchoolTextTest.draws(1, 27, 50));
        y.undo();
        y.seed(1);
        y.seed(-5);
        Check.due("a refused one changes nothing", y.chance(9), SchoolTextTest.draws(1, 27, 50));
    }

    private static void undoOfChance() {
        PupilsPupil x = Check.schooled(CHAIN + "ill 30;");
        int[] before = Check.imageOf(x);
        x.chance(50);
        Check.due("undo", x.undo(), true);
        int[] behind = Check.imageOf(x);
        for (int k = 0; k < before.length; k++) {
            Check.due("octet " + k, behind[k], before[k]);
        }
        Check.due("KEPT", x.has(8), 0);
    }

    public static void main(String[] args) {
        teach();
        tell();
        undo();
        lastTwenty();
        refusedOnesAreNoActs();
        seedStays();
        undoOfChance();
        Check.close();
    }
}
