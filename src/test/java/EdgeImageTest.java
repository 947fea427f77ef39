/** Terms IV and promises 30 to 32: each sentence that names a bound of images. */
public final class EdgeImageTest {
    // Two facts, three people: 18 bytes.
    private static final String SCHOOL = "fact a worth 3;fact b worth 5;person ann calm 10;person bob calm 20;"
            + "person cid calm 30;knows ann a;errs ann b;taught bob by ann;taught cid by bob;pass 3;tries 2;";

    private static String school(int facts, int people) {
        StringBuilder s = new StringBuilder();
        for (int k = 0; k < facts; k++) {
            s.append("fact f").append((char) ('a' + k)).append(" worth 1;");
        }
        for (int k = 0; k < people; k++) {
            s.append("person p").append((char) ('a' + k)).append(" calm 1;");
        }
        return s.toString();
    }

    private static void lengths() {
        Check.sentence("AN IMAGE is written: how many bytes.");
        for (int people = 0; people <= 8; people++) {
            PupilsPupil x = Check.schooled(school(people, people));
            Check.due("image()", x.image(), 3 + 5 * people);
        }
    }

    private static void octets() {
        Check.sentence("Byte k of the latest image(); NONE when there is none such.");
        for (int people = 0; people <= 8; people++) {
            PupilsPupil x = Check.schooled(school(8, people));
            for (int k = -1; k < 50; k++) {
                Check.due("octet(" + k + ") ahead of image()", x.octet(k), -1);
            }
            int length = x.image();
            for (int k = -1; k < 50; k++) {
                Check.due("octet(" + k + ") of " + length, x.octet(k) >= 0, k >= 0 && k < length);
            }
            for (int far : Check.FAR) {
                Check.due("octet(" + far + ")", x.octet(far) >= 0, far >= 0 && far < length);
            }
        }
        PupilsPupil y = Check.schooled(school(1, 8));
        y.image();
        y.years(7);
        Check.due("the latest is as it was", y.octet(1), 0);
        Check.school(y, school(1, 1));
        Check.due("behind school(), too", y.octet(42) >= 0, true);
        Check.due("image()", y.image(), 8);
        Check.due("the latest has no byte 8", y.octet(8), -1);
    }

    private static void bytes() {
        Check.sentence("AN IMAGE: YEAR (two bytes, the higher first); for each PERSON his MASTER and 1 (0: none), "
                + "of which FACTS he is RIGHT, of which WRONG, as bits, tries left, 1 if he has PASSED, "
                + "2 more if he is a DOCTOR");
        PupilsPupil x = Check.schooled(school(8, 8) + "tries 9;");
        for (int year : new int[] {0, 1, 255, 256, 257, 511, 512, 767, 768, 998, 999}) {
            Check.setYear(x, year);
            x.image();
            Check.due("the higher byte of " + year, x.octet(0), year / 256);
            Check.due("the lower byte of " + year, x.octet(1), year % 256);
        }
        x.teach(0, 7);
        for (int k = 0; k < 8; k++) {
            x.tell(7, k);
        }
        x.image();
        Check.due("pa by ph, the eighth", x.octet(2), 8);
        Check.due("ph by none", x.octet(37), 0);
        Check.due("RIGHT of all eight", x.octet(38), 255);
        Check.due("WRONG of none", x.octet(39), 0);
        Check.due("9 tries", x.octet(40), 9);
        Check.due("neither PASSED nor a DOCTOR", x.octet(41), 0);
        PupilsPupil y = Check.schooled("fact f worth 1;pass 1;person a calm 1;person b calm 1;person c calm 1;"
                + "person d calm 1;taught b by a;taught c by b;knows c f;knows d f;taught d by c;errs a f;");
        y.years(1);
        y.image();
        int[] flags = {2, 2, 1, 1};
        for (int p = 0; p < 4; p++) {
            Check.due("PASSED, a DOCTOR: " + p, y.octet(6 + 5 * p), flags[p]);
        }
        y.tell(0, 0);
        y.years(1);
        y.image();
        Check.due("both", y.octet(6), 3);
    }

    private static void lastByte() {
        Check.sentence("last a byte: all ahead from 43 on, c = (3 c + it) mod 251.");
        PupilsPupil x = new PupilsPupil();
        for (int year = 0; year < 1000; year++) {
            int c = (3 * ((3 * 43 + year / 256) % 251) + year % 256) % 251;
            Check.due("on() of YEAR " + year, Check.on(x, year / 256, year % 256, c), true);
            Check.due("YEAR", x.has(4), year);
            if (year % 50 == 0) {
                for (int other = 0; other < 256; other++) {
                    Check.due("on() with " + other, Check.on(x, year / 256, year % 256, other), other == c);
                }
            }
            x.image();
            Check.due("the last byte", x.octet(2), c);
        }
    }

    private static int[] with(int[] image, int place, int octet) {
        int[] other = image.clone();
        other[place] = octet;
        return Check.summed(other);
    }

    private static void refusedBytes() {
        Check.sentence("(YEAR 999, tries 9 at most; PEOPLE, FACTS that there are; none RIGHT and WRONG of one FACT; "
                + "none taught by himself, step by step)");
        int[] image = Check.imageOf(Check.schooled(SCHOOL));
        for (int place = 0; place < 17; place++) {
            int row = (place - 2) % 5;
            for (int b = 0; b < 256; b++) {
                PupilsPupil x = Check.schooled(SCHOOL);
                boolean fits;
                if (place == 0) {
                    fits = b <= 3;
                } else if (place == 1) {
                    fits = true;
                } else if (row == 0) {
                    int person = (place - 2) / 5;
                    // ann teaches bob teaches cid: who is above can't be taught by one below, nor by himself.
                    fits = b <= 3 && b - 1 < person || person == 2 && b == 0;
                } else if (row == 1 || row == 2) {
                    int other = image[row == 1 ? place + 1 : place - 1];
                    fits = b < 4 && (b & other) == 0;
                } else {
                    fits = row == 3 ? b <= 9 : b <= 3;
                }
                Check.due("byte " + place + " as " + b, Check.on(x, with(image, place, b)), fits);
                Check.due("refused", x.status(5), fits ? 0 : 1);
            }
        }
    }

    private static void years() {
        Check.sentence("YEAR 999, tries 9 at most");
        int[] image = Check.imageOf(Check.schooled(SCHOOL));
        for (int year = 990; year < 1030; year++) {
            PupilsPupil x = Check.schooled(SCHOOL);
            int[] other = image.clone();
            other[0] = year / 256;
            other[1] = year % 256;
            Check.due("on() of YEAR " + year, Check.on(x, Check.summed(other)), year <= 999);
            Check.due("YEAR", x.has(4), year <= 999 ? year : 0);
        }
    }

    private static void factsThereAre() {
        Check.sentence("PEOPLE, FACTS that there are; none RIGHT and WRONG of one FACT");
        for (int facts = 0; facts <= 8; facts++) {
            PupilsPupil x = Check.schooled(school(facts, 1));
            int[] image = Check.imageOf(x);
            for (int b = 0; b < 256; b++) {
                Check.due("RIGHT of " + b + " of " + facts, Check.on(x, with(image, 3, b)), b < 1 << facts);
                Check.due("WRONG of " + b + " of " + facts, Check.on(x, with(image, 4, b)), b < 1 << facts);
            }
        }
        PupilsPupil y = Check.schooled(school(8, 1));
        int[] image = Check.imageOf(y);
        for (int k = 0; k < 8; k++) {
            for (int j = 0; j < 8; j++) {
                Check.due("RIGHT of " + k + ", WRONG of " + j, Check.on(y, with(with(image, 3, 1 << k), 4, 1 << j)), k != j);
            }
        }
        for (int people = 1; people <= 8; people++) {
            PupilsPupil z = Check.schooled(school(1, people));
            int[] free = Check.imageOf(z);
            for (int b = 0; b < 256; b++) {
                boolean fits = b == 0 || b <= people && b != people;
                Check.due("the last one's MASTER " + b, Check.on(z, with(free, 5 * people - 3, b)), fits);
            }
        }
    }

    private static void rings() {
        Check.sentence("none taught by himself, step by step");
        PupilsPupil x = Check.schooled(school(1, 8));
        int[] free = Check.imageOf(x);
        for (int size = 1; size <= 8; size++) {
            for (int from = 0; from + size <= 8; from++) {
                int[] ring = free.clone();
                for (int k = 0; k < size; k++) {
                    ring[2 + 5 * (from + k)] = from + (k + 1) % size + 1;
                }
                Check.due("a ring of " + size + " from " + from, Check.on(x, Check.summed(ring)), false);
                // Opened at one place it is a line.
                ring[2 + 5 * (from + size - 1)] = 0;
                Check.due("a line of " + size + " from " + from, Check.on(x, Check.summed(ring)), true);
            }
        }
        // A ring with others below it, who are not in it.
        int[] below = free.clone();
        below[2] = 2;
        below[7] = 3;
        below[12] = 2;
        Check.due("two in a ring teach the first", Check.on(x, Check.summed(below)), false);
    }

    private static void lengthsTaken() {
        Check.sentence("The tape (it goes) is AN IMAGE of this SCHOOL: true, all is as it tells, "
                + "nothing is KEPT or can be undone; false, refused (5), when it is none");
        for (int people = 0; people <= 8; people++) {
            PupilsPupil x = Check.schooled(school(1, people));
            int refused = 0;
            for (int length = 0; length <= 48; length++) {
                boolean fits = length == 3 + 5 * people;
                int[] image = length == 0 ? new int[0] : Check.summed(new int[length]);
                refused += fits ? 0 : 1;
                Check.due("on() of " + length + " bytes, " + people + " PEOPLE", Check.on(x, image), fits);
                Check.due("refused", x.status(5), refused);
                Check.due("the tape is gone", x.end(1), false);
            }
        }
    }

    private static void nothingKept() {
        Check.sentence("true, all is as it tells, nothing is KEPT or can be undone");
        PupilsPupil x = Check.schooled(SCHOOL);
        int[] first = Check.imageOf(x);
        Check.hear(x, 0, 1);
        x.years(5);
        x.teach(2, -1);
        Check.due("KEPT", x.has(8) > 0, true);
        Check.due("ACTS", x.has(10), 2);
        Check.due("on()", Check.on(x, first), true);
        Check.due("nothing KEPT", x.has(8), 0);
        Check.due("kept(0, 0)", x.kept(0, 0), -1);
        Check.due("nothing can be undone", x.has(10), 0);
        Check.due("undo()", x.undo(), false);
        Check.due("YEAR", x.has(4), 0);
        Check.due("none has PASSED", x.has(5), 0);
        Check.due("none is a DOCTOR", x.has(6), 0);
        Check.due("cid is taught by bob", x.person(2, 1), 1);
        Check.due("tries", x.person(2, 5), 2);
        int[] again = Check.imageOf(x);
        for (int k = 0; k < first.length; k++) {
            Check.due("octet(" + k + ")", again[k], first[k]);
        }
        x.years(1);
        Check.due("an ACT behind it", x.has(10), 1);
        Check.due("undo()", x.undo(), true);
    }

    private static void allStays() {
        Check.sentence("none taught by himself, step by step), all staying.");
        PupilsPupil x = Check.schooled(SCHOOL);
        x.years(2);
        x.tell(0, 1);
        int[] image = Check.imageOf(x);
        int kept = x.has(8);
        int[][] bad = {{}, {1}, with(image, 0, 4), with(image, 2, 1), with(image, 3, 4), with(image, 5, 10),
            with(image, 6, 4), with(image, 12, 4), with(image, 16, 255), with(with(image, 13, 1), 14, 1),
            java.util.Arrays.copyOf(image, 17), java.util.Arrays.copyOf(image, 19)};
        for (int k = 0; k < bad.length; k++) {
            Check.due("on() of bad one " + k, Check.on(x, bad[k]), false);
            Check.due("refused", x.status(5), k + 1);
            Check.due("KEPT", x.has(8), kept);
            Check.due("ACTS", x.has(10), 2);
            int[] still = Check.imageOf(x);
            for (int j = 0; j < image.length; j++) {
                Check.due("octet(" + j + ")", still[j], image[j]);
            }
        }
        Check.due("undo()", x.undo() && x.undo(), true);
        Check.due("YEAR", x.has(4), 0);
    }

    public static void main(String[] args) {
        lengths();
        octets();
        bytes();
        lastByte();
        refusedBytes();
        years();
        factsThereAre();
        rings();
        lengthsTaken();
        nothingKept();
        allStays();
        Check.close();
    }
}
