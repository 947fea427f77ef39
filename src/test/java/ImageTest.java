/** Promises 30 to 32: images written, told byte by byte, and taken back. */
public final class ImageTest {
    private static final String SCHOOL = "fact a worth 3;fact b worth 5;person ann calm 10;person bob calm 20;"
            + "person cid calm 30;knows ann a;errs ann b;taught bob by ann;taught cid by bob;pass 3;tries 2;";

    private static void image() {
        PupilsPupil x = Check.schooled(SCHOOL);
        Check.due("octet ahead of image()", x.octet(0), -1);
        int[] want = Check.summed(0, 0, 0, 1, 2, 2, 0, 1, 0, 0, 2, 0, 2, 0, 0, 2, 0, 0);
        Check.due("image()", x.image(), 18);
        for (int k = 0; k < want.length; k++) {
            Check.due("octet(" + k + ")", x.octet(k), want[k]);
        }
        Check.due("octet(18)", x.octet(18), -1);
        Check.due("octet(-1)", x.octet(-1), -1);
        x.years(1);
        Check.due("the latest image() still", x.octet(1), 0);
        // In YEAR 0 bob is RIGHT of a and has PASSED, in YEAR 1 cid is, has, and ann is a DOCTOR.
        x.years(1);
        int[] then = Check.summed(0, 2, 0, 1, 2, 0, 2, 1, 1, 2, 2, 1, 2, 1, 0, 1, 1, 0);
        Check.due("image()", x.image(), 18);
        for (int k = 0; k < then.length; k++) {
            Check.due("octet(" + k + ") behind two YEARS", x.octet(k), then[k]);
        }
    }

    private static void comesBack() {
        PupilsPupil x = Check.schooled(SCHOOL);
        x.years(2);
        x.teach(2, 0);
        int[] image = Check.imageOf(x);
        int[][] people = new int[3][8];
        for (int p = 0; p < 3; p++) {
            for (int k = 0; k < 8; k++) {
                people[p][k] = x.person(p, k);
            }
        }
        Check.hear(x, 0, 1);
        x.years(7);
        x.teach(1, -1);
        x.tell(0, 1);
        Check.due("on()", Check.on(x, image), true);
        for (int p = 0; p < 3; p++) {
            for (int k = 0; k < 8; k++) {
                Check.due("person(" + p + ", " + k + ")", x.person(p, k), people[p][k]);
            }
        }
        int[] has = {2, 3, 3, 2, 2, 2, 1, 2, 0, 1, 0};
        for (int k = 0; k < has.length; k++) {
            Check.due("has(" + k + ")", x.has(k), has[k]);
        }
        Check.due("nothing can be undone", x.undo(), false);
        Check.due("another object of this SCHOOL", Check.on(Check.schooled(SCHOOL), image), true);
    }

    private static int[] with(int[] image, int place, int octet) {
        int[] other = image.clone();
        other[place] = octet;
        return Check.summed(other);
    }

    private static void refusedOnes() {
        PupilsPupil x = Check.schooled(SCHOOL);
        x.years(1);
        x.teach(2, -1);
        int[] image = Check.imageOf(x);
        int[] sum = image.clone();
        sum[sum.length - 1] ^= 1;
        Check.due("another sum", Check.on(x, sum), false);
        Check.due("a byte less", Check.on(x, java.util.Arrays.copyOf(image, image.length - 1)), false);
        Check.due("a byte more", Check.on(x, java.util.Arrays.copyOf(image, image.length + 1)), false);
        Check.due("no byte", x.on(), false);
        Check.due("YEAR 1001", Check.on(x, with(with(image, 0, 3), 1, 233)), false);
        Check.due("YEAR 1000", Check.on(x, with(with(image, 0, 3), 1, 232)), false);
        Check.due("YEAR 65281", Check.on(x, with(image, 0, 255)), false);
        Check.due("no such MASTER", Check.on(x, with(image, 2, 4)), false);
        Check.due("taught by himself", Check.on(x, with(image, 2, 1)), false);
        Check.due("taught by his pupil", Check.on(x, with(image, 2, 2)), false);
        Check.due("a ring of three", Check.on(x, with(with(image, 2, 3), 12, 2)), false);
        Check.due("a ring of the two others", Check.on(x, with(with(with(image, 2, 2), 7, 3), 12, 2)), false);
        Check.due("RIGHT of no such FACT", Check.on(x, with(image, 8, 4)), false);
        Check.due("WRONG of no such FACT", Check.on(x, with(image, 9, 4)), false);
        Check.due("RIGHT and WRONG", Check.on(x, with(image, 3, 3)), false);
        Check.due("10 tries", Check.on(x, with(image, 5, 10)), false);
        Check.due("4 of PASSED and DOCTOR", Check.on(x, with(image, 6, 4)), false);
        Check.due("status(5)", x.status(5), 17);
        Check.due("all stays: YEAR", x.has(4), 1);
        Check.due("all stays: ACTS", x.has(10), 2);
        Check.due("all stays: KEPT", x.has(8), 1);
        Check.due("the same still", Check.on(x, image), true);
        Check.due("YEAR 999", Check.on(x, with(with(image, 0, 3), 1, 231)), true);
        Check.due("YEAR", x.has(4), 999);
        Check.due("9 tries", Check.on(x, with(image, 5, 9)), true);
        Check.due("tries left", x.person(0, 5), 9);
        Check.due("PASSED and a DOCTOR", Check.on(x, with(image, 6, 3)), true);
        Check.due("both", x.person(0, 6) + 2 * x.person(0, 7), 3);
        Check.due("a MASTER of his own", Check.on(x, with(image, 2, 3)), true);
        Check.due("ann is taught by cid", x.person(0, 1), 2);
    }

    private static void eightPeople() {
        StringBuilder school = new StringBuilder();
        for (char c = 'a'; c <= 'h'; c++) {
            school.append("fact ").append(c).append("f worth 1;person ").append(c).append("p calm 1;");
            school.append("knows ap ").append(c).append("f;");
            school.append(c == 'a' ? "" : "taught " + c + "p by " + (char) (c - 1) + "p;");
        }
        PupilsPupil x = Check.schooled(school + "pass 8;tries 9;");
        Check.due("image()", x.image(), 43);
        x.years(8);
        x.years(100);
        x.years(100);
        x.years(92);
        int[] image = Check.imageOf(x);
        Check.due("the higher byte of YEAR 300", image[0], 1);
        Check.due("the lower byte", image[1], 44);
        Check.due("ap: all FACTS", image[3], 255);
        Check.due("hp: taught by gp", image[37], 7);
        Check.due("the last byte", x.octet(42), Check.summed(image)[42]);
        Check.due("nothing behind it", x.octet(43), -1);
        Check.school(x, school + "pass 8;tries 9;");
        Check.due("on()", Check.on(x, image), true);
        Check.due("YEAR", x.has(4), 300);
        Check.due("PASSED", x.has(5), 3);
        Check.due("DOCTORS", x.has(6), 1);
        Check.due("on() again is no more", Check.on(x, with(with(image, 6, 0), 11, 0)), true);
        Check.due("PASSED", x.has(5), 1);
        Check.due("DOCTORS", x.has(6), 0);
    }

    private static void noSchool() {
        PupilsPupil x = new PupilsPupil();
        Check.due("image()", x.image(), 3);
        Check.due("its sum", x.octet(2), 136);
        Check.due("on()", Check.on(x, Check.summed(1, 4, 0)), true);
        Check.due("YEAR", x.has(4), 260);
    }

    public static void main(String[] args) {
        image();
        comesBack();
        refusedOnes();
        eightPeople();
        noSchool();
        Check.close();
    }
}
