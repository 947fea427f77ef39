/** Promises 1 to 3 and 33: a new object, the tape, what was refused. */
public final class TapeTest {
    private static void newObject() {
        PupilsPupil x = new PupilsPupil();
        int[] has = {0, 0, 10, 3, 0, 0, 0, 0, 0, 0, 0};
        for (int k = 0; k < has.length; k++) {
            Check.due("has(" + k + ") of a new object", x.has(k), has[k]);
        }
        Check.due("fault(0) ahead of any", x.fault(0), 0);
        Check.due("fault(1) ahead of any", x.fault(1), -1);
        Check.due("person(0, 0)", x.person(0, 0), -1);
        Check.due("fact(0, 0)", x.fact(0, 0), -1);
        Check.due("octet(0) ahead of image()", x.octet(0), -1);
        for (int k = 0; k < 6; k++) {
            Check.due("status(" + k + ") of a new object", x.status(k), 0);
        }
    }

    private static void feedAndEnd() {
        PupilsPupil x = new PupilsPupil();
        Check.due("end(0) of no bytes", x.end(0), true);
        Check.due("end(1) of no bytes", x.end(1), false);
        Check.due("end(-1)", x.end(-1), false);
        Check.due("status(0)", x.status(0), 2);
        for (int k = 1; k <= 80; k++) {
            Check.due("feed " + k, x.feed(0, -1, 1, Integer.MIN_VALUE, k), 20 * k);
        }
        Check.due("feed beyond 1600", x.feed(0, 0, 0, 0, 0), -1);
        Check.due("status(0)", x.status(0), 3);
        Check.due("end(1601)", x.end(1601), false);
        Check.due("end(1600)", x.end(1600), true);
        Check.due("end(1581)", x.end(1581), true);
        Check.due("feed to 1601", x.feed(0, 0, 0, 0, 0), -1);
        Check.due("end(1580)", x.end(1580), true);
        Check.due("feed to 1600", x.feed(0, 0, 0, 0, 0), 1600);
        Check.due("end(7)", x.end(7), true);
        Check.due("end(8) behind end(7)", x.end(8), false);
        Check.due("feed", x.feed(0, 0, 0, 0, 0), 27);
        Check.due("status(0)", x.status(0), 6);
    }

    private static void highestByteFirst() {
        PupilsPupil x = new PupilsPupil();
        // "pass" "  7;" and blanks
        Check.due("feed", x.feed(0x70617373, 0x2020373b, 0x20202020, 0x20202020, 0x0a0a0a0a), 20);
        Check.due("school()", x.school(), 1);
        Check.due("pass", x.has(2), 7);
    }

    private static void tapeGoes() {
        PupilsPupil x = Check.schooled("fact f worth 1;person p calm 1;");
        Check.due("tape behind school()", x.end(1), false);
        Check.due("a fault", Check.school(x, "fact"), -1);
        Check.due("tape behind a fault", x.end(1), false);
        Check.due("ask", Check.ask(x, 0, "often all"), 1);
        Check.due("tape behind ask()", x.end(1), false);
        Check.due("ask of none such", Check.ask(x, 1, "often all"), PupilsPupil.NOTHING);
        Check.due("tape behind ask() of none such", x.end(1), false);
        Check.due("hear", Check.hear(x, 0, 3), -1);
        Check.due("tape behind hear()", x.end(1), false);
        Check.due("on", Check.on(x, 0, 3), false);
        Check.due("tape behind on()", x.end(1), false);
    }

    private static void refusals() {
        PupilsPupil x = Check.schooled("fact f worth 1;person p calm 1;");
        x.end(1);
        Check.due("status(0) by end()", x.status(0), 1);
        Check.school(x, "x");
        Check.due("status(1) by school()", x.status(1), 1);
        x.hear();
        Check.due("status(1) by hear()", x.status(1), 2);
        x.teach(0, 0);
        Check.due("status(2) by teach()", x.status(2), 1);
        x.tell(0, 1);
        Check.due("status(2) by tell()", x.status(2), 2);
        x.years(0);
        Check.due("status(3) by years()", x.status(3), 1);
        x.chance(101);
        Check.due("status(3) by chance()", x.status(3), 2);
        x.undo();
        Check.due("status(4) by undo()", x.status(4), 1);
        x.seed(-1);
        Check.due("status(5) by seed()", x.status(5), 1);
        x.on();
        Check.due("status(5) by on()", x.status(5), 2);
        Check.ask(x, 0, "x");
        Check.ask(x, 9, "x");
        int[] all = {1, 2, 2, 2, 1, 2};
        for (int k = 0; k < all.length; k++) {
            Check.due("status(" + k + ")", x.status(k), all[k]);
        }
        Check.due("status(-1)", x.status(-1), -1);
        Check.due("status(6)", x.status(6), -1);
        Check.school(x, "");
        Check.due("status stays behind school()", x.status(2), 2);
    }

    public static void main(String[] args) {
        newObject();
        feedAndEnd();
        highestByteFirst();
        tapeGoes();
        refusals();
        Check.close();
    }
}
