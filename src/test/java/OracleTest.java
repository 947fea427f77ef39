import java.nio.charset.StandardCharsets;
import java.util.ArrayList;
import java.util.List;
import java.util.Random;

/** Promises 1 to 33: random runs, each call held against the second reading of the document. */
public final class OracleTest {
    private static final String[] WORDS = {"fact", "worth", "person", "calm", "knows", "errs", "taught", "by",
        "takes", "garble", "sits", "pass", "tries", "ill", "right", "wrong", "year", "class", "mcalm", "left",
        "marks", "number", "or", "and", "not", "all", "min", "max", "first", "last", "often", "total", "most",
        "least", "a", "zz", "abcdef", "abcdefg", "persons", "[", "]", "(", ")", "<", ">", "=", "+", "-", "*",
        "/", ",", ";", "0", "1", "9", "10", "99", "100", "101", "9999", "12345", "00001", "A", "\t", "\n"};
    private static final String[] LESSON = {"calm", "right", "wrong", "year", "worth", "class", "mcalm"};
    private static final String[] SITS = {"calm", "right", "wrong", "year", "left", "marks"};
    private static final String[] QUESTION = {"number", "worth", "knows", "errs", "right", "wrong", "calm",
        "marks", "left", "year"};

    private final Random random;
    private final PupilsPupil x = new PupilsPupil();
    private final Oracle y = new Oracle();
    private final List<String> log = new ArrayList<>();

    private OracleTest(long seed) {
        random = new Random(seed);
    }

    private int below(int n) {
        return random.nextInt(n);
    }

    private boolean chance(int percent) {
        return below(100) < percent;
    }

    private String pick(String... from) {
        return from[below(from.length)];
    }

    // ---- texts

    private String sum(String[] parts, int depth) {
        StringBuilder s = new StringBuilder(product(parts, depth));
        while (chance(25)) {
            s.append(pick("+", "-", " + ", " - ")).append(product(parts, depth));
        }
        return s.toString();
    }

    private String product(String[] parts, int depth) {
        StringBuilder s = new StringBuilder(part(parts, depth));
        while (chance(20)) {
            s.append(pick("*", "/", " *\n", "/ ")).append(part(parts, depth));
        }
        return s.toString();
    }

    private String part(String[] parts, int depth) {
        int kind = below(10);
        if (kind < 4 || depth <= 0) {
            return chance(50) ? pick(parts) : "" + (chance(20) ? below(10000) : below(30));
        }
        if (kind < 6) {
            return "(" + sum(parts, depth - 1) + ")";
        }
        if (kind < 8) {
            return pick("min(", "max (") + sum(parts, depth - 1) + "," + sum(parts, depth - 1) + pick(")", " )");
        }
        if (parts == QUESTION) {
            return "by " + (chance(60) ? pick("0", "1", "2", "3", "9", "number") : part(parts, depth - 1));
        }
        return pick(parts);
    }

    private String claim(String[] parts, int depth) {
        int kind = below(12);
        if (kind == 0) {
            return "all";
        }
        if (kind <= 2 && depth > 0) {
            return "not " + claim(parts, depth - 1);
        }
        if (kind <= 4 && depth > 0) {
            return "[" + test(parts, depth - 1) + pick("]", " ] ");
        }
        return sum(parts, depth) + pick("<", ">", "=", " < ", "\n>") + sum(parts, depth);
    }

    private String test(String[] parts, int depth) {
        StringBuilder s = new StringBuilder(claim(parts, depth));
        while (chance(30)) {
            s.append(pick(" and ", " or ")).append(claim(parts, depth));
        }
        return s.toString();
    }

    private int depth() {
        return chance(15) ? 8 : below(4);
    }

    private String schoolText() {
        StringBuilder s = new StringBuilder();
        int facts = chance(10) ? 9 : chance(10) ? below(9) : 1 + below(6);
        int people = chance(5) ? 9 : 2 + below(7);
        String[] factNames = {"a", "bb", "first", "sky", "abcdef", "mm", "zz", "total", "over"};
        String[] personNames = {"p", "ann", "bob", "cid", "danxyz", "eve", "least", "gus", "hal"};
        for (int k = 0; k < Math.max(facts, people); k++) {
            if (k < facts && k < 9) {
                s.append("fact ").append(factNames[k]).append(" worth ").append(1 + below(9)).append(pick(";", " ;\n"));
            }
            if (k < people) {
                s.append("person ").append(personNames[k]).append(" calm ").append(below(100)).append(pick(";", "; "));
            }
        }
        for (int k = 0; k < facts * people && k < 70; k++) {
            int density = 30;
            if (chance(density)) {
                s.append(pick("knows ", "knows ", "errs ")).append(personNames[k % people]).append(' ');
                s.append(factNames[k / people]).append(";");
            }
        }
        for (int k = 1; k < people; k++) {
            if (chance(80)) {
                s.append("taught ").append(personNames[k]).append(" by ");
                s.append(personNames[chance(95) ? below(k) : below(people)]).append(";");
            }
        }
        if (chance(50)) {
            s.append("takes ").append(test(LESSON, depth())).append(";");
        }
        if (chance(60)) {
            s.append("garble ").append(test(LESSON, depth())).append(";");
        }
        if (chance(50)) {
            s.append("sits ").append(test(SITS, depth())).append(";");
        }
        if (chance(90)) {
            s.append("pass ").append(chance(90) ? below(14) : below(110)).append(";");
        }
        if (chance(60)) {
            s.append("tries ").append(chance(95) ? below(10) : 10).append(";");
        }
        if (chance(70)) {
            s.append("ill ").append(below(103)).append(";");
        }
        for (int k = 0; k < 90 && facts == 3; k++) {
            s.append("pass 9;");
        }
        return s.toString();
    }

    private String spoilt(String text) {
        StringBuilder s = new StringBuilder(text);
        int times = chance(60) ? 1 : below(4);
        for (int k = 0; k < times && s.length() > 0; k++) {
            int at = below(s.length());
            switch (below(5)) {
                case 0:
                    s.deleteCharAt(at);
                    break;
                case 1:
                    s.setLength(at);
                    break;
                case 2:
                    s.insert(at, pick(WORDS));
                    break;
                case 3:
                    s.insert(at, " " + pick(WORDS) + " ");
                    break;
                default:
                    s.setCharAt(at, (char) below(chance(80) ? 128 : 256));
                    break;
            }
        }
        return s.toString();
    }

    // ---- calls on both

    private void due(String call, long got, long want) {
        log.add(call + " -> " + want);
        Check.due(call, got, want);
    }

    private void due(String call, boolean got, boolean want) {
        due(call, got ? 1 : 0, want ? 1 : 0);
    }

    private void tape(String text) {
        String s = text.length() > 1600 ? text.substring(0, 1600) : text;
        byte[] bytes = s.getBytes(StandardCharsets.ISO_8859_1);
        for (int k = 0; k < bytes.length; k += 20) {
            int[] v = new int[5];
            for (int j = 0; j < 20; j++) {
                v[j / 4] = v[j / 4] << 8 | (k + j < bytes.length ? bytes[k + j] & 255 : 32);
            }
            due("feed", x.feed(v[0], v[1], v[2], v[3], v[4]), y.feed(v[0], v[1], v[2], v[3], v[4]));
        }
        due("end " + bytes.length + " " + s, x.end(bytes.length), y.end(bytes.length));
    }

    private void faults() {
        due("fault(0)", x.fault(0), y.fault(0));
        due("fault(1)", x.fault(1), y.fault(1));
    }

    private void school() {
        String text = schoolText();
        tape(chance(25) ? spoilt(text) : text);
        due("school()", x.school(), y.school());
        faults();
    }

    private void question() {
        boolean test = chance(60);
        String text = test ? pick("first ", "last ", "often ") + test(QUESTION, depth())
                : pick("total ", "most ", "least ") + sum(QUESTION, depth());
        tape(chance(20) ? spoilt(text) : text);
        int p = person();
        due("ask(" + p + ")", x.ask(p), y.ask(p));
        faults();
    }

    private int person() {
        return chance(92) && y.people() > 0 ? below(y.people()) : below(12) - 2;
    }

    private int fact() {
        return chance(92) && y.facts() > 0 ? below(y.facts()) : below(12) - 2;
    }

    private void hear() {
        StringBuilder s = new StringBuilder();
        int rows = chance(90) ? 1 + below(3) : below(20);
        for (int k = 0; k < rows; k++) {
            s.append((char) Math.max(0, person())).append((char) (chance(95) ? below(3) : 3));
        }
        tape(chance(5) ? s + "x" : s.toString());
        due("hear()", x.hear(), y.hear());
    }

    private void image() {
        due("image()", x.image(), y.image());
        for (int k = -1; k < 45; k++) {
            due("octet(" + k + ")", x.octet(k), y.octet(k));
        }
    }

    private void on() {
        y.image();
        x.image();
        List<Integer> bytes = new ArrayList<>(y.image);
        bytes.remove(bytes.size() - 1);
        int edits = below(4);
        for (int k = 0; k < edits; k++) {
            int at = below(bytes.size());
            bytes.set(at, at == 0 ? below(5) : chance(70) ? below(8) : below(256));
        }
        if (chance(20)) {
            bytes.set(0, 3);
            bytes.set(1, 200 + below(50));
        }
        bytes.add(chance(92) ? Oracle.sum(bytes) : below(256));
        if (chance(3)) {
            bytes.add(0);
        }
        StringBuilder s = new StringBuilder();
        for (int b : bytes) {
            s.append((char) b);
        }
        tape(s.toString());
        due("on()", x.on(), y.on());
    }

    private void act() {
        int p = person();
        int q = chance(20) ? -1 : person();
        int f = fact();
        int n = chance(70) ? 1 + below(4) : below(110) - 3;
        switch (below(6)) {
            case 0:
                due("teach " + p + " " + q, x.teach(p, q), y.teach(p, q));
                break;
            case 1:
                due("tell " + p + " " + f, x.tell(p, f), y.tell(p, f));
                break;
            case 2:
                due("years " + n, x.years(n), y.years(n));
                break;
            case 3:
                due("chance " + n, x.chance(n), y.chance(n));
                break;
            case 4:
                int seed = chance(80) ? below(Integer.MAX_VALUE) : -below(3);
                due("seed " + seed, x.seed(seed), y.seed(seed));
                break;
            default:
                due("undo", x.undo(), y.undo());
                break;
        }
    }

    private void look() {
        int p = person();
        int f = fact();
        int n = chance(80) ? below(7) : below(45) - 2;
        int what = chance(90) ? below(2) : below(6) - 2;
        int good = below(256) & below(256);
        int bad = chance(90) ? below(256) & ~good & (1 << y.people()) - 1 : below(600) - 20;
        good = chance(90) ? good & (1 << y.people()) - 1 : good;
        switch (below(9)) {
            case 0:
                int w = below(6) - 1;
                due("later " + n + " " + w, x.later(n, w), y.later(n, w));
                break;
            case 1:
                due("doctor " + p, x.doctor(p), y.doctor(p));
                break;
            case 2:
                due("lost " + f, x.lost(f), y.lost(f));
                break;
            case 3:
                due("master " + p + " " + what, x.master(p, what), y.master(p, what));
                break;
            case 4:
                due("gift " + p + " " + n + " " + what, x.gift(p, n, what), y.gift(p, n, what));
                break;
            case 5:
                due("law " + n + " " + what, x.law(n, what), y.law(n, what));
                break;
            case 6:
                due("sources " + f + " " + n, x.sources(f, n), y.sources(f, n));
                break;
            case 7:
                due("probe " + f + " " + n + " " + what, x.probe(f, n, what), y.probe(f, n, what));
                break;
            default:
                due("part " + good + " " + bad, x.part(good, bad), y.part(good, bad));
                break;
        }
    }

    private void lookAtAll() {
        for (int k = -1; k < 12; k++) {
            due("has(" + k + ")", x.has(k), y.has(k));
            due("status(" + k + ")", x.status(k), y.status(k));
            due("marks(" + k + ")", x.marks(k), y.marks(k));
            due("next(" + k + ")", x.next(k), y.next(k));
            for (int w = -1; w < 9; w++) {
                due("fact(" + k + ", " + w + ")", x.fact(k, w), y.fact(k, w));
                due("person(" + k + ", " + w + ")", x.person(k, w), y.person(k, w));
                due("letter(0, " + k + ", " + w + ")", x.letter(0, k, w), y.letter(0, k, w));
                due("letter(1, " + k + ", " + w + ")", x.letter(1, k, w), y.letter(1, k, w));
            }
        }
        for (int k = -1; k < 32; k++) {
            for (int w = -1; w < 4; w++) {
                due("kept(" + k + ", " + w + ")", x.kept(k, w), y.kept(k, w));
            }
        }
    }

    private void oddTape() {
        int n = below(1700) - 20;
        due("end(" + n + ")", x.end(n), y.end(n));
        int times = chance(10) ? 90 : below(3);
        for (int k = 0; k < times; k++) {
            int v = random.nextInt();
            due("feed", x.feed(v, k, v, v >> 1, -v), y.feed(v, k, v, v >> 1, -v));
        }
        due("end(0)", x.end(0), y.end(0));
    }

    private void step() {
        int kind = below(100);
        if (kind < 5) {
            school();
        } else if (kind < 25) {
            question();
        } else if (kind < 30) {
            hear();
        } else if (kind < 33) {
            image();
        } else if (kind < 39) {
            on();
        } else if (kind < 60) {
            act();
        } else if (kind < 63) {
            oddTape();
        } else if (kind < 68) {
            lookAtAll();
        } else {
            look();
        }
    }

    public static void main(String[] args) {
        int runs = args.length > 0 ? Integer.parseInt(args[0]) : 400;
        int from = args.length > 1 ? Integer.parseInt(args[1]) : 0;
        int schools = 0;
        for (int run = from; run < from + runs && Check.wrongSoFar() == 0; run++) {
            OracleTest test = new OracleTest(run);
            test.lookAtAll();
            test.school();
            for (int k = 0; k < 120 && Check.wrongSoFar() == 0; k++) {
                test.step();
            }
            test.lookAtAll();
            schools += test.y.people() > 1 ? 1 : 0;
            if (Check.wrongSoFar() != 0) {
                System.out.println("run " + run + ", the calls that were not only looks:");
                for (String line : test.log) {
                    if (!line.matches("(has|status|marks|next|fact|person|letter|kept|octet|feed).*")) {
                        System.out.println("  " + line);
                    }
                }
            }
        }
        System.out.println(runs + " runs, " + schools + " ended with a school");
        Check.close();
    }
}
