import java.io.IOException;
import java.nio.charset.StandardCharsets;
import java.nio.file.Files;
import java.nio.file.Path;

/** What the tests share: comparing answers, and feeding a tape. */
final class Check {
    /** Numbers beyond all bounds, those among them by which a shift or a sum would wrap around. */
    static final int[] FAR = {Integer.MIN_VALUE, Integer.MIN_VALUE + 1, -1000, -32, -8, -2, 16, 31, 32, 33, 63, 64,
        256, 65536, Integer.MAX_VALUE - 999, Integer.MAX_VALUE - 1, Integer.MAX_VALUE};

    private static final Path DOCUMENT = Path.of("../shared/DOC.md");
    private static int calls = 0;
    private static int wrong = 0;
    private static String sentence = "";
    private static String document = "";

    private Check() {
    }

    static void due(String call, long got, long want) {
        calls++;
        if (got != want) {
            wrong++;
            String says = sentence.isEmpty() ? "" : " (" + sentence + ")";
            System.out.println(call + " answered " + got + ", due is " + want + says);
        }
    }

    static void due(String call, boolean got, boolean want) {
        due(call, got ? 1 : 0, want ? 1 : 0);
    }

    /** What follows holds the class to these words, which must be the document's own. */
    static void sentence(String words) {
        sentence = words;
        due("the document says so", read().contains(words), true);
    }

    private static String read() {
        if (document.isEmpty()) {
            try {
                document = Files.readString(DOCUMENT).replaceAll("\\s+", " ");
            } catch (IOException e) {
                System.out.println("no document at " + DOCUMENT);
            }
        }
        return document;
    }

    /** The end of a test: exit code 1 if an answer was not as due. */
    static void close() {
        System.out.println(calls + " answers looked at, " + wrong + " not as due");
        if (wrong != 0 || calls == 0) {
            System.exit(1);
        }
    }

    static int wrongSoFar() {
        return wrong;
    }

    /** The object's tape, empty so far, holds these bytes. */
    static void tape(PupilsPupil x, int... bytes) {
        for (int k = 0; k < bytes.length; k += 20) {
            int[] five = new int[5];
            for (int j = 0; j < 20; j++) {
                int octet = k + j < bytes.length ? bytes[k + j] : 32;
                five[j / 4] = five[j / 4] << 8 | octet & 255;
            }
            due("feed", x.feed(five[0], five[1], five[2], five[3], five[4]), k + 20);
        }
        due("end", x.end(bytes.length), true);
    }

    static void tape(PupilsPupil x, String text) {
        byte[] bytes = text.getBytes(StandardCharsets.ISO_8859_1);
        int[] numbers = new int[bytes.length];
        for (int k = 0; k < bytes.length; k++) {
            numbers[k] = bytes[k] & 255;
        }
        tape(x, numbers);
    }

    static int school(PupilsPupil x, String text) {
        tape(x, text);
        return x.school();
    }

    /** A new object with this school, which has no fault. */
    static PupilsPupil schooled(String text) {
        PupilsPupil x = new PupilsPupil();
        int statements = school(x, text);
        due("fault of " + text + " at " + x.fault(1), x.fault(0), 0);
        due("statements", statements < 0, false);
        return x;
    }

    /** A school's text with a fault, on a new object. */
    static void schoolFault(String text, int kind, int place) {
        PupilsPupil x = new PupilsPupil();
        due("school of <" + text + ">", school(x, text), -1);
        due("fault of <" + text + ">", x.fault(0), kind);
        due("place in <" + text + ">", x.fault(1), place);
        due("refused", x.status(1), 1);
    }

    /** A school's text without a fault, on a new object. */
    static void schoolFine(String text, int statements) {
        PupilsPupil x = new PupilsPupil();
        due("school of <" + text + ">", school(x, text), statements);
        due("fault of <" + text + ">", x.fault(0), 0);
        due("place in <" + text + ">", x.fault(1), -1);
        due("refused", x.status(1), 0);
    }

    static long ask(PupilsPupil x, int person, String text) {
        tape(x, text);
        return x.ask(person);
    }

    static int hear(PupilsPupil x, int... bytes) {
        tape(x, bytes);
        return x.hear();
    }

    /** The latest image, as bytes that can be fed. */
    static int[] imageOf(PupilsPupil x) {
        int[] bytes = new int[x.image()];
        for (int k = 0; k < bytes.length; k++) {
            bytes[k] = x.octet(k);
        }
        return bytes;
    }

    /** The bytes with their last one made to fit the others. */
    static int[] summed(int... bytes) {
        int[] image = bytes.clone();
        int c = 43;
        for (int k = 0; k < image.length - 1; k++) {
            c = (3 * c + image[k]) % 251;
        }
        image[image.length - 1] = c;
        return image;
    }

    static boolean on(PupilsPupil x, int... bytes) {
        tape(x, bytes);
        return x.on();
    }

    /** All stays but the year; nothing is kept or can be undone any more. */
    static void setYear(PupilsPupil x, int year) {
        int[] image = imageOf(x);
        image[0] = year / 256;
        image[1] = year % 256;
        due("on() with YEAR " + year, on(x, summed(image)), true);
    }
}
