/** Promises 23, 24, 27: each sentence that names a refused act, and the bounds of what can be undone. */
public final class EdgeActTest {
    // ann teaches bob teaches cid; dan is alone, and so is eve.
    private static final String SCHOOL = YearTest.CHAIN + "person dan calm 1;person eve calm 1;errs cid b;";

    private static void refusedTeach(PupilsPupil x, int person, int master) {
        int refused = x.status(2);
        int[] before = Check.imageOf(x);
        int acts = x.has(10);
        Check.due("teach(" + person + ", " + master + ")", x.teach(person, master), false);
        Check.due("refused", x.status(2), refused + 1);
        Check.due("no ACT", x.has(10), acts);
        int[] behind = Check.imageOf(x);
        for (int k = 0; k < before.length; k++) {
            Check.due("all stays, byte " + k, behind[k], before[k]);
        }
    }

    private static void teach() {
        Check.sentence("A PERSON has another MASTER (NONE: none): true; false, refused (2), when it is so already, "
                + "it is himself, or one taught by him, step by step, or there are none such.");
        PupilsPupil x = Check.schooled(SCHOOL);
        refusedTeach(x, 1, 0);
        refusedTeach(x, 0, -1);
        refusedTeach(x, 4, -1);
        for (int p = 0; p < 5; p++) {
            refusedTeach(x, p, p);
        }
        refusedTeach(x, 0, 1);
        refusedTeach(x, 0, 2);
        refusedTeach(x, 1, 2);
        refusedTeach(x, 5, 0);
        refusedTeach(x, 0, 5);
        refusedTeach(x, -1, 0);
        refusedTeach(x, -1, -1);
        refusedTeach(x, 5, -1);
        for (int far : Check.FAR) {
            refusedTeach(x, far, 0);
            refusedTeach(x, 0, far);
            refusedTeach(x, far, -1);
            refusedTeach(x, far, far);
        }
        Check.due("nothing can be undone", x.undo(), false);
        Check.due("to another", x.teach(2, 0), true);
        Check.due("to the last", x.teach(0, 4), true);
        Check.due("to none", x.teach(2, -1), true);
        Check.due("ACTS", x.has(10), 3);
        refusedTeach(x, 4, 1);
        Check.due("cid is free", x.teach(4, 2), true);
        refusedTeach(x, 2, 1);
    }

    private static void longestLine() {
        Check.sentence("or one taught by him, step by step");
        StringBuilder s = new StringBuilder();
        for (char c = 'a'; c <= 'h'; c++) {
            s.append("person p").append(c).append(" calm 1;");
        }
        PupilsPupil x = Check.schooled(s.toString());
        for (int p = 7; p > 0; p--) {
            Check.due("teach", x.teach(p, p - 1), true);
        }
        for (int p = 0; p < 8; p++) {
            for (int m = p; m < 8; m++) {
                refusedTeach(x, p, m);
            }
        }
        Check.due("seven ACTS", x.has(10), 7);
    }

    private static void tell() {
        Check.sentence("A PERSON is told a FACT: true; false, refused (2), when he is RIGHT of it, "
                + "or there are none such.");
        PupilsPupil x = Check.schooled(SCHOOL);
        int[][] bad = {{0, 0}, {0, 1}, {5, 0}, {-1, 0}, {0, 2}, {0, -1}, {1, 2}, {1, -1}, {8, 8}, {5, 2}};
        for (int k = 0; k < bad.length; k++) {
            Check.due("tell(" + bad[k][0] + ", " + bad[k][1] + ")", x.tell(bad[k][0], bad[k][1]), false);
            Check.due("refused", x.status(2), k + 1);
        }
        for (int far : Check.FAR) {
            Check.due("tell(" + far + ", 0)", x.tell(far, 0), false);
            Check.due("tell(1, " + far + ")", x.tell(1, far), false);
        }
        Check.due("refused", x.status(2), bad.length + 2 * Check.FAR.length);
        Check.due("no ACT", x.has(10), 0);
        Check.due("all stays", x.person(1, 3) + x.person(1, 4), 0);
        Check.due("one who is neither", x.tell(1, 1), true);
        Check.due("one who is WRONG", x.tell(2, 1), true);
        Check.due("WRONG no more", x.person(2, 4), 0);
        Check.due("RIGHT", x.person(2, 3), 2);
        Check.due("the last one", x.tell(4, 0), true);
        Check.due("RIGHT already", x.tell(4, 0), false);
        Check.due("ACTS", x.has(10), 3);
    }

    private static void undo() {
        Check.sentence("The latest ACT is undone (the seed stays): true; false, refused (4), when none can be.");
        PupilsPupil x = Check.schooled(SCHOOL + "ill 50;");
        Check.due("none yet", x.undo(), false);
        Check.due("refused", x.status(4), 1);
        x.teach(2, 0);
        x.tell(2, 1);
        x.years(2);
        x.chance(2);
        int drawn = 10;
        int[] years = {2, 0, 0, 0};
        int[] right = {2, 2, 0, 0};
        int[] masters = {0, 0, 0, 1};
        for (int k = 0; k < 4; k++) {
            Check.due("undo()", x.undo(), true);
            Check.due("YEAR", x.has(4), years[k]);
            Check.due("cid is RIGHT of b", x.person(2, 3) & 2, right[k]);
            Check.due("cid's MASTER", x.person(2, 1), masters[k]);
            Check.due("ACTS", x.has(10), 3 - k);
        }
        Check.due("WRONG of b again", x.person(2, 4), 2);
        Check.due("no more", x.undo(), false);
        Check.due("refused", x.status(4), 2);
        Check.due("the seed stays where it came to", x.chance(20),
                SchoolTextTest.draws(1, drawn + 100, 50) - SchoolTextTest.draws(1, drawn, 50));
    }

    private static void lastTwenty() {
        Check.sentence("The last 20 can be undone.");
        for (int acts = 0; acts <= 45; acts++) {
            PupilsPupil x = Check.schooled(SCHOOL);
            for (int k = 0; k < acts; k++) {
                x.years(1);
            }
            Check.due("ACTS of " + acts, x.has(10), Math.min(acts, 20));
            int undone = 0;
            while (undone < 50 && x.undo()) {
                undone++;
                Check.due("YEAR", x.has(4), acts - undone);
                Check.due("ACTS left", x.has(10), Math.min(acts, 20) - undone);
            }
            Check.due("undone of " + acts, undone, Math.min(acts, 20));
            Check.due("refused", x.status(4), 1);
            x.years(3);
            Check.due("an ACT behind them", x.undo(), true);
            Check.due("YEAR", x.has(4), acts - undone);
        }
    }

    private static void undoAndOn() {
        Check.sentence("The last 20 can be undone.");
        // Acts and undoings in turn, around the row of twenty and over its end.
        PupilsPupil x = Check.schooled(SCHOOL);
        int year = 0;
        for (int k = 0; k < 12; k++) {
            for (int j = 0; j < 7; j++) {
                x.years(1);
            }
            for (int j = 0; j < 4; j++) {
                Check.due("undo()", x.undo(), true);
            }
            year += 3;
            Check.due("YEAR", x.has(4), year);
            Check.due("ACTS", x.has(10), Math.min(3 * k + 7, 20) - 4);
        }
        int left = x.has(10);
        for (int k = 1; k <= left; k++) {
            Check.due("undo()", x.undo(), true);
            Check.due("YEAR", x.has(4), year - k);
        }
        Check.due("no more", x.undo(), false);
    }

    public static void main(String[] args) {
        teach();
        longestLine();
        tell();
        undo();
        lastTwenty();
        undoAndOn();
        Check.close();
    }
}
