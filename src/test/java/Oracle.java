import java.util.ArrayList;
import java.util.HashMap;
import java.util.List;
import java.util.Map;
import java.util.Set;

/**
 * The document read once more, written with other means (tokens, trees, exceptions, copies), so
 * that random runs can hold the two side by side.
 */
final class Oracle {
    static final int NONE = -1;
    static final long NOTHING = -1000000000000000L;
    private static final Set<String> OWN = Set.of("fact", "worth", "person", "calm", "knows", "errs",
            "taught", "by", "takes", "garble", "sits", "pass", "tries", "ill", "right", "wrong", "year",
            "class", "mcalm", "left", "marks", "number", "or", "and", "not", "all", "min", "max");

    static final class Fault extends RuntimeException {
        private static final long serialVersionUID = 1;
        final int kind;
        final int place;

        Fault(int kind, int place) {
            this.kind = kind;
            this.place = place;
        }
    }

    /** A tree of a sum or a test: the value by what its words mean. */
    interface Tree {
        long of(Map<String, Long> words, boolean[] rightPeople);
    }

    record Token(char sort, String text, int place) {
    }

    record Kept(int year, int person, int kind) {
    }

    static final class World {
        int year;
        int[][] belief;
        int[] master;
        int[] left;
        boolean[] passed;
        boolean[] doctor;
        List<Kept> kept = new ArrayList<>();

        World(int people, int facts) {
            belief = new int[people][facts];
            master = new int[people];
            java.util.Arrays.fill(master, NONE);
            left = new int[people];
            passed = new boolean[people];
            doctor = new boolean[people];
        }

        World copy() {
            World w = new World(0, 0);
            w.year = year;
            w.belief = new int[belief.length][];
            for (int p = 0; p < belief.length; p++) {
                w.belief[p] = belief[p].clone();
            }
            w.master = master.clone();
            w.left = left.clone();
            w.passed = passed.clone();
            w.doctor = doctor.clone();
            w.kept = new ArrayList<>(kept);
            return w;
        }

        /** The masters of a person, his own first. */
        List<Integer> mastersOf(int p) {
            List<Integer> chain = new ArrayList<>();
            int m = master[p];
            while (m != NONE && chain.size() <= master.length) {
                chain.add(m);
                m = master[m];
            }
            return chain;
        }

        int count(int value) {
            int n = 0;
            for (int[] row : belief) {
                for (int b : row) {
                    n += b == value ? 1 : 0;
                }
            }
            return n;
        }
    }

    static final class Plan {
        List<String> factNames = new ArrayList<>();
        List<Integer> worth = new ArrayList<>();
        List<String> personNames = new ArrayList<>();
        List<Integer> calm = new ArrayList<>();
        Map<String, Tree> tests = new HashMap<>();
        int pass = 10;
        int tries = 3;
        int ill = 0;
        World first = new World(0, 0);
        int statements;
    }

    // ---------------------------------------------------------------- reading

    final class Parser {
        final String s;
        final List<Token> tokens = new ArrayList<>();
        int i = 0;
        Set<String> parts = Set.of();
        boolean question;

        Parser(String s) {
            this.s = s;
            int k = 0;
            while (k < s.length()) {
                char c = s.charAt(k);
                if (c == ' ' || c == '\n') {
                    k++;
                    continue;
                }
                int e = k + 1;
                char sort = 's';
                if (c >= 'a' && c <= 'z') {
                    sort = 'w';
                    while (e < s.length() && s.charAt(e) >= 'a' && s.charAt(e) <= 'z') {
                        e++;
                    }
                } else if (c >= '0' && c <= '9') {
                    sort = 'n';
                    while (e < s.length() && s.charAt(e) >= '0' && s.charAt(e) <= '9') {
                        e++;
                    }
                }
                if (sort != 's' && !tokens.isEmpty()) {
                    Token last = tokens.get(tokens.size() - 1);
                    if (last.sort != 's' && last.place + last.text.length() == k) {
                        sort = 'x';
                    }
                }
                tokens.add(new Token(sort, s.substring(k, e), k));
                k = e;
            }
        }

        Token peek() {
            return i < tokens.size() ? tokens.get(i) : new Token('e', "", s.length());
        }

        boolean is(String text) {
            Token t = peek();
            return t.sort != 'x' && t.sort != 'e' && t.text.equals(text);
        }

        boolean skip(String text) {
            if (is(text)) {
                i++;
                return true;
            }
            return false;
        }

        Fault bad() {
            return new Fault(1, peek().place);
        }

        void want(String text) {
            if (!skip(text)) {
                throw bad();
            }
        }

        int number() {
            Token t = peek();
            if (t.sort != 'n') {
                throw bad();
            }
            if (t.text.length() > 4) {
                throw new Fault(1, t.place + 4);
            }
            i++;
            return Integer.parseInt(t.text);
        }

        int number(int low, int high) {
            int place = peek().place;
            int n = number();
            if (n < low || n > high) {
                throw new Fault(2, place);
            }
            return n;
        }

        String name() {
            Token t = peek();
            if (t.sort != 'w') {
                throw bad();
            }
            if (t.text.length() > 6) {
                throw new Fault(1, t.place + 6);
            }
            if (OWN.contains(t.text)) {
                throw bad();
            }
            i++;
            return t.text;
        }

        void open(int depth) {
            if (depth >= 6) {
                throw new Fault(4, peek().place);
            }
            i++;
        }

        Tree test(int depth) {
            Tree left = both(depth);
            while (skip("or")) {
                Tree a = left;
                Tree b = both(depth);
                left = (w, r) -> a.of(w, r) == 1 || b.of(w, r) == 1 ? 1 : 0;
            }
            return left;
        }

        Tree both(int depth) {
            Tree left = claim(depth);
            while (skip("and")) {
                Tree a = left;
                Tree b = claim(depth);
                left = (w, r) -> a.of(w, r) == 1 && b.of(w, r) == 1 ? 1 : 0;
            }
            return left;
        }

        Tree claim(int depth) {
            if (is("not")) {
                open(depth);
                Tree a = claim(depth + 1);
                return (w, r) -> a.of(w, r) == 1 ? 0 : 1;
            }
            if (is("[")) {
                open(depth);
                Tree a = test(depth + 1);
                want("]");
                return a;
            }
            if (skip("all")) {
                return (w, r) -> 1;
            }
            Tree a = sum(depth);
            for (String sign : List.of("<", ">", "=")) {
                if (skip(sign)) {
                    Tree b = sum(depth);
                    return (w, r) -> {
                        int c = Long.compare(a.of(w, r), b.of(w, r));
                        return (sign.equals("<") ? c < 0 : sign.equals(">") ? c > 0 : c == 0) ? 1 : 0;
                    };
                }
            }
            throw bad();
        }

        Tree sum(int depth) {
            Tree left = product(depth);
            while (is("+") || is("-")) {
                boolean plus = is("+");
                i++;
                Tree a = left;
                Tree b = product(depth);
                left = (w, r) -> clamp(plus ? a.of(w, r) + b.of(w, r) : a.of(w, r) - b.of(w, r));
            }
            return left;
        }

        Tree product(int depth) {
            Tree left = part(depth);
            while (is("*") || is("/")) {
                boolean times = is("*");
                i++;
                Tree a = left;
                Tree b = part(depth);
                left = (w, r) -> {
                    long x = a.of(w, r);
                    long y = b.of(w, r);
                    return times ? clamp(x * y) : y == 0 ? 0 : (long) Math.floor((double) x / y);
                };
            }
            return left;
        }

        Tree part(int depth) {
            Token t = peek();
            if (t.sort == 'n') {
                long n = number();
                return (w, r) -> n;
            }
            if (is("(")) {
                open(depth);
                Tree a = sum(depth + 1);
                want(")");
                return a;
            }
            if (is("min") || is("max")) {
                boolean min = is("min");
                i++;
                if (!is("(")) {
                    throw bad();
                }
                open(depth);
                Tree a = sum(depth + 1);
                want(",");
                Tree b = sum(depth + 1);
                want(")");
                return (w, r) -> min ? Math.min(a.of(w, r), b.of(w, r)) : Math.max(a.of(w, r), b.of(w, r));
            }
            if (question && is("by")) {
                open(depth);
                Tree a = part(depth + 1);
                return (w, r) -> {
                    long n = a.of(w, r);
                    return n >= 0 && n < r.length && r[(int) n] ? 1 : 0;
                };
            }
            if (t.sort == 'w' && parts.contains(t.text)) {
                i++;
                return (w, r) -> w.get(t.text);
            }
            throw bad();
        }

        Plan plan() {
            Plan plan = new Plan();
            plan.first = new World(8, 8);
            while (peek().sort != 'e') {
                if (plan.statements == 80) {
                    throw new Fault(5, peek().place);
                }
                statement(plan);
                want(";");
                plan.statements++;
            }
            World w = new World(plan.personNames.size(), plan.worth.size());
            for (int p = 0; p < w.master.length; p++) {
                w.master[p] = plan.first.master[p];
                w.left[p] = plan.tries;
                for (int f = 0; f < plan.worth.size(); f++) {
                    w.belief[p][f] = plan.first.belief[p][f];
                }
            }
            plan.first = w;
            return plan;
        }

        void statement(Plan plan) {
            Token t = peek();
            if (skip("fact")) {
                if (plan.worth.size() == 8) {
                    throw new Fault(5, t.place);
                }
                String name = newName(plan);
                want("worth");
                plan.worth.add(number(1, 9));
                plan.factNames.add(name);
            } else if (skip("person")) {
                if (plan.calm.size() == 8) {
                    throw new Fault(5, t.place);
                }
                String name = newName(plan);
                want("calm");
                plan.calm.add(number(0, 99));
                plan.personNames.add(name);
            } else if (is("knows") || is("errs")) {
                int value = is("knows") ? 1 : 2;
                i++;
                int p = known(plan.personNames);
                int place = peek().place;
                int f = known(plan.factNames);
                if (plan.first.belief[p][f] != 0) {
                    throw new Fault(3, place);
                }
                plan.first.belief[p][f] = value;
            } else if (skip("taught")) {
                int place = peek().place;
                int p = known(plan.personNames);
                if (plan.first.master[p] != NONE) {
                    throw new Fault(3, place);
                }
                want("by");
                place = peek().place;
                int m = known(plan.personNames);
                if (m == p || plan.first.mastersOf(m).contains(p)) {
                    throw new Fault(3, place);
                }
                plan.first.master[p] = m;
            } else if (is("takes") || is("garble") || is("sits")) {
                if (plan.tests.containsKey(t.text)) {
                    throw new Fault(5, t.place);
                }
                i++;
                parts = t.text.equals("sits") ? Set.of("calm", "right", "wrong", "year", "left", "marks")
                        : Set.of("calm", "right", "wrong", "year", "worth", "class", "mcalm");
                plan.tests.put(t.text, test(0));
            } else if (skip("pass")) {
                plan.pass = number(0, 99);
            } else if (skip("tries")) {
                plan.tries = number(0, 9);
            } else if (skip("ill")) {
                plan.ill = number(0, 100);
            } else {
                throw bad();
            }
        }

        String newName(Plan plan) {
            int place = peek().place;
            String name = name();
            if (plan.factNames.contains(name) || plan.personNames.contains(name)) {
                throw new Fault(3, place);
            }
            return name;
        }

        int known(List<String> names) {
            int place = peek().place;
            int k = names.indexOf(name());
            if (k < 0) {
                throw new Fault(3, place);
            }
            return k;
        }
    }

    static long clamp(long v) {
        return Math.max(-1000000, Math.min(1000000, v));
    }

    // ---------------------------------------------------------------- the object

    StringBuilder tape = new StringBuilder();
    Plan plan = new Plan();
    World now = new World(0, 0);
    List<World> past = new ArrayList<>();
    List<int[]> heard = new ArrayList<>();
    List<Integer> image = new ArrayList<>();
    int[] refused = new int[6];
    int fault = 0;
    int place = NONE;
    long seed = 1;

    int facts() {
        return plan.worth.size();
    }

    int people() {
        return plan.calm.size();
    }

    boolean noFact(int f) {
        return f < 0 || f >= facts();
    }

    boolean noPerson(int p) {
        return p < 0 || p >= people();
    }

    int refuse(int k) {
        refused[k]++;
        return NONE;
    }

    boolean deny(int k) {
        refused[k]++;
        return false;
    }

    String takeTape() {
        String s = tape.toString();
        tape.setLength(0);
        return s;
    }

    int feed(int a, int b, int c, int d, int e) {
        if (tape.length() > 1580) {
            return refuse(0);
        }
        for (int v : new int[] {a, b, c, d, e}) {
            tape.append((char) (v >>> 24)).append((char) (v >>> 16 & 255));
            tape.append((char) (v >>> 8 & 255)).append((char) (v & 255));
        }
        return tape.length();
    }

    boolean end(int n) {
        if (n < 0 || n > tape.length()) {
            return deny(0);
        }
        tape.setLength(n);
        return true;
    }

    int school() {
        Plan read;
        try {
            read = new Parser(takeTape()).plan();
        } catch (Fault f) {
            fault = f.kind;
            place = f.place;
            return refuse(1);
        }
        fault = 0;
        place = NONE;
        plan = read;
        now = read.first.copy();
        past.clear();
        heard.clear();
        return read.statements;
    }

    int fault(int what) {
        return what == 0 ? fault : what == 1 ? place : NONE;
    }

    static int bits(boolean[] row) {
        int n = 0;
        for (int k = 0; k < row.length; k++) {
            n += row[k] ? 1 << k : 0;
        }
        return n;
    }

    int has(int what) {
        int[] all = {facts(), people(), plan.pass, plan.tries, now.year, Integer.bitCount(bits(now.passed)),
            Integer.bitCount(bits(now.doctor)), now.count(2), Math.min(30, now.kept.size()), heard.size(),
            past.size()};
        return what >= 0 && what < all.length ? all[what] : NONE;
    }

    int letter(int kind, int which, int k) {
        if (k < 0 || k > 5 || kind < 0 || kind > 1 || (kind == 0 ? noFact(which) : noPerson(which))) {
            return NONE;
        }
        String name = (kind == 0 ? plan.factNames : plan.personNames).get(which);
        return k < name.length() ? name.charAt(k) - 96 : 0;
    }

    int fact(int f, int what) {
        if (noFact(f) || what < 0 || what > 2) {
            return NONE;
        }
        int n = 0;
        for (int[] row : now.belief) {
            n += row[f] == what ? 1 : 0;
        }
        return what == 0 ? plan.worth.get(f) : n;
    }

    static int beliefBits(int[] row, int value) {
        int n = 0;
        for (int f = 0; f < row.length; f++) {
            n += row[f] == value ? 1 << f : 0;
        }
        return n;
    }

    int person(int p, int what) {
        if (noPerson(p)) {
            return NONE;
        }
        int pupils = 0;
        for (int q = 0; q < people(); q++) {
            pupils += now.master[q] == p ? 1 << q : 0;
        }
        int[] all = {plan.calm.get(p), now.master[p], pupils, beliefBits(now.belief[p], 1),
            beliefBits(now.belief[p], 2), now.left[p], now.passed[p] ? 1 : 0, now.doctor[p] ? 1 : 0};
        return what >= 0 && what < all.length ? all[what] : NONE;
    }

    long marksOf(World w, int p) {
        long n = 0;
        for (int f = 0; f < facts(); f++) {
            n += w.belief[p][f] == 1 ? plan.worth.get(f) : w.belief[p][f] == 2 ? -plan.worth.get(f) : 0;
        }
        return n;
    }

    long marks(int p) {
        return noPerson(p) ? NOTHING : marksOf(now, p);
    }

    Map<String, Long> wordsOf(World w, int p) {
        Map<String, Long> m = new HashMap<>();
        m.put("calm", (long) plan.calm.get(p));
        m.put("right", (long) Integer.bitCount(beliefBits(w.belief[p], 1)));
        m.put("wrong", (long) Integer.bitCount(beliefBits(w.belief[p], 2)));
        m.put("year", (long) w.year);
        m.put("left", (long) w.left[p]);
        m.put("marks", marksOf(w, p));
        return m;
    }

    boolean lawHolds(String law, boolean without, Map<String, Long> words) {
        Tree t = plan.tests.get(law);
        return t == null ? without : t.of(words, new boolean[0]) == 1;
    }

    Map<String, Long> lessonWords(World w, int p, int f) {
        Map<String, Long> m = wordsOf(w, p);
        int master = w.master[p];
        long pupils = 0;
        for (int q : w.master) {
            pupils += q == master ? 1 : 0;
        }
        m.put("class", pupils);
        m.put("mcalm", (long) plan.calm.get(master));
        m.put("worth", (long) plan.worth.get(f));
        return m;
    }

    int lesson(World w, int p) {
        if (w.master[p] == NONE) {
            return NONE;
        }
        for (int f = 0; f < facts(); f++) {
            int mine = w.belief[p][f];
            int his = w.belief[w.master[p]][f];
            boolean able = his != 0 && mine == 0 || mine == 2 && his == 1;
            if (able && lawHolds("takes", true, lessonWords(w, p, f))) {
                return f;
            }
        }
        return NONE;
    }

    int next(int p) {
        return noPerson(p) ? NONE : lesson(now, p);
    }

    int kept(int k, int what) {
        int n = now.kept.size();
        List<Kept> told = now.kept.subList(Math.max(0, n - 30), n);
        if (k < 0 || k >= told.size()) {
            return NONE;
        }
        Kept row = told.get(k);
        return what == 0 ? row.year : what == 1 ? row.person : what == 2 ? row.kind : NONE;
    }

    /** What is so behind one more year, a new world. */
    World year(World old, boolean[] ill) {
        World w = old.copy();
        for (int p = 0; p < people(); p++) {
            int f = ill[p] ? NONE : lesson(old, p);
            if (f == NONE) {
                continue;
            }
            boolean wrong = old.belief[p][f] != 2
                    && (old.belief[old.master[p]][f] == 2 || lawHolds("garble", false, lessonWords(old, p, f)));
            w.belief[p][f] = wrong ? 2 : 1;
        }
        for (int p = 0; p < people(); p++) {
            if (ill[p] || w.passed[p] || w.left[p] == 0 || !lawHolds("sits", true, wordsOf(w, p))) {
                continue;
            }
            if (marksOf(w, p) >= plan.pass) {
                w.passed[p] = true;
                w.kept.add(new Kept(w.year, p, 1));
            } else {
                w.left[p]--;
            }
        }
        for (int g = 0; g < people(); g++) {
            boolean made = false;
            for (int p = 0; p < people(); p++) {
                List<Integer> chain = w.mastersOf(p);
                made |= w.passed[p] && chain.size() >= 2 && chain.get(1) == g;
            }
            if (made && !w.doctor[g]) {
                w.doctor[g] = true;
                w.kept.add(new Kept(w.year, g, 2));
            }
        }
        w.year++;
        return w;
    }

    World ahead(World w, int n) {
        World v = w;
        for (int k = 0; k < n; k++) {
            v = year(v, new boolean[people()]);
        }
        return v;
    }

    boolean badN(int n, int most) {
        return n < 0 || n > most || now.year + n > 999;
    }

    int later(int n, int what) {
        if (badN(n, 40)) {
            return NONE;
        }
        World w = ahead(now, n);
        return what == 0 ? bits(w.passed) : what == 1 ? bits(w.doctor) : what == 2 ? w.count(2)
                : what == 3 ? w.count(1) : NONE;
    }

    int doctor(int p) {
        for (int n = 0; !noPerson(p) && !badN(n, 40); n++) {
            if (ahead(now, n).doctor[p]) {
                return n;
            }
        }
        return NONE;
    }

    int lost(int f) {
        for (int n = 0; !noFact(f) && people() > 0 && !badN(n, 40); n++) {
            World w = ahead(now, n);
            boolean all = true;
            for (int[] row : w.belief) {
                all &= row[f] == 2;
            }
            if (all) {
                return n;
            }
        }
        return NONE;
    }

    int master(int p, int what) {
        if (noPerson(p) || what < 0 || what > 1) {
            return NONE;
        }
        for (int n = 0; !badN(n, 40); n++) {
            for (int m = 0; m < people(); m++) {
                if (m == p || now.mastersOf(m).contains(p)) {
                    continue;
                }
                World w = now.copy();
                w.master[p] = m;
                if (ahead(w, n).passed[p]) {
                    return what == 0 ? m : n;
                }
            }
        }
        return NONE;
    }

    int gift(int p, int n, int what) {
        if (noPerson(p) || badN(n, 20) || what < 0 || what > 1 || ahead(now, n).doctor[p]) {
            return NONE;
        }
        for (int worth = 1; worth <= 9; worth++) {
            for (int q = 0; q < people(); q++) {
                for (int f = 0; f < facts(); f++) {
                    if (plan.worth.get(f) != worth || now.belief[q][f] == 1) {
                        continue;
                    }
                    World w = now.copy();
                    w.belief[q][f] = 1;
                    if (ahead(w, n).doctor[p]) {
                        return what == 0 ? q : f;
                    }
                }
            }
        }
        return NONE;
    }

    int law(int n, int what) {
        if (badN(n, 20) || what < 0 || what > 1) {
            return NONE;
        }
        int best = -1;
        int with = -1;
        for (int t = 9; t >= 0; t--) {
            World w = now.copy();
            for (int p = 0; p < people(); p++) {
                w.left[p] = w.passed[p] ? w.left[p] : t;
            }
            int doctors = Integer.bitCount(bits(ahead(w, n).doctor));
            if (doctors >= best) {
                best = doctors;
                with = t;
            }
        }
        return what == 0 ? with : best;
    }

    int hear() {
        String s = takeTape();
        List<int[]> rows = new ArrayList<>();
        boolean fine = s.length() % 2 == 0 && s.length() >= 2 && s.length() <= 32;
        for (int k = 0; fine && k < s.length(); k += 2) {
            fine = s.charAt(k) < people() && s.charAt(k + 1) <= 2;
            rows.add(new int[] {s.charAt(k), s.charAt(k + 1)});
        }
        if (!fine) {
            return refuse(1);
        }
        heard = rows;
        return rows.size();
    }

    World suppose(int source, int f, int n) {
        World w = now.copy();
        for (int q = 0; q < people(); q++) {
            w.belief[q][f] = q == source ? 2 : w.belief[q][f] != 0 ? 1 : 0;
        }
        return ahead(w, n);
    }

    int sources(int f, int n) {
        if (noFact(f) || badN(n, 20)) {
            return NONE;
        }
        int found = 0;
        for (int s = 0; s < people(); s++) {
            if (now.belief[s][f] == 0) {
                continue;
            }
            World w = suppose(s, f, n);
            boolean so = true;
            for (int[] row : heard) {
                so &= w.belief[row[0]][f] == row[1];
            }
            found += so ? 1 << s : 0;
        }
        return found;
    }

    int probe(int f, int n, int what) {
        int found = sources(f, n);
        if (found == NONE || found == 0 || what < 0 || what > 1) {
            return NONE;
        }
        int bestMost = 99;
        int best = NONE;
        for (int p = 0; p < people(); p++) {
            int[] groups = new int[3];
            for (int s = 0; s < people(); s++) {
                if ((found >> s & 1) == 1) {
                    groups[suppose(s, f, n).belief[p][f]]++;
                }
            }
            int most = Math.max(groups[0], Math.max(groups[1], groups[2]));
            if (most < bestMost) {
                bestMost = most;
                best = p;
            }
        }
        return what == 0 ? best : bestMost;
    }

    int part(int good, int bad) {
        if ((good >>> people()) != 0 || (bad >>> people()) != 0 || (good & bad) != 0) {
            return NONE;
        }
        for (int size = 0; size <= facts(); size++) {
            for (int set = 0; set < 1 << facts(); set++) {
                boolean parted = Integer.bitCount(set) == size;
                for (int g = 0; g < people(); g++) {
                    for (int b = 0; b < people(); b++) {
                        if ((good >> g & 1) == 1 && (bad >> b & 1) == 1) {
                            parted &= Integer.bitCount(set & beliefBits(now.belief[g], 1))
                                    > Integer.bitCount(set & beliefBits(now.belief[b], 1));
                        }
                    }
                }
                if (parted) {
                    return set;
                }
            }
        }
        return NONE;
    }

    void remember() {
        past.add(now.copy());
        if (past.size() > 20) {
            past.remove(0);
        }
    }

    boolean teach(int p, int m) {
        if (noPerson(p) || m != NONE && noPerson(m) || m == p || now.master[p] == m
                || m != NONE && now.mastersOf(m).contains(p)) {
            return deny(2);
        }
        remember();
        now.master[p] = m;
        return true;
    }

    boolean tell(int p, int f) {
        if (noPerson(p) || noFact(f) || now.belief[p][f] == 1) {
            return deny(2);
        }
        remember();
        now.belief[p][f] = 1;
        return true;
    }

    int years(int n) {
        if (n < 1 || badN(n, 100)) {
            return refuse(3);
        }
        remember();
        int before = Integer.bitCount(bits(now.passed));
        now = ahead(now, n);
        return Integer.bitCount(bits(now.passed)) - before;
    }

    int draw(int m) {
        seed = (1103515245L * seed + 12345) % (1L << 31);
        return (int) (seed / 64 % m);
    }

    int chance(int n) {
        if (n < 1 || badN(n, 100)) {
            return refuse(3);
        }
        remember();
        int often = 0;
        for (int k = 0; k < n; k++) {
            boolean[] ill = new boolean[people()];
            for (int p = 0; p < people(); p++) {
                ill[p] = draw(100) < plan.ill;
                often += ill[p] ? 1 : 0;
            }
            now = year(now, ill);
        }
        return often;
    }

    boolean undo() {
        if (past.isEmpty()) {
            return deny(4);
        }
        now = past.remove(past.size() - 1);
        return true;
    }

    boolean seed(int s) {
        if (s < 0) {
            return deny(5);
        }
        seed = s;
        return true;
    }

    long ask(int p) {
        String s = takeTape();
        if (noPerson(p)) {
            return NOTHING;
        }
        Parser q = new Parser(s);
        q.question = true;
        q.parts = Set.of("number", "worth", "knows", "errs", "right", "wrong", "calm", "marks", "left", "year");
        String kind = q.peek().text;
        Tree t;
        try {
            if (q.peek().sort != 'w') {
                throw q.bad();
            }
            if (List.of("first", "last", "often").contains(kind)) {
                q.i++;
                t = q.test(0);
            } else if (List.of("total", "most", "least").contains(kind)) {
                q.i++;
                t = q.sum(0);
            } else {
                throw q.bad();
            }
            if (q.peek().sort != 'e') {
                throw q.bad();
            }
        } catch (Fault f) {
            fault = f.kind;
            place = f.place;
            return NOTHING;
        }
        fault = 0;
        place = NONE;
        return answer(kind, t, p);
    }

    long answer(String kind, Tree t, int p) {
        List<Long> values = new ArrayList<>();
        for (int f = 0; f < facts(); f++) {
            Map<String, Long> words = wordsOf(now, p);
            words.put("number", (long) f);
            words.put("worth", (long) plan.worth.get(f));
            words.put("knows", now.belief[p][f] == 1 ? 1L : 0L);
            words.put("errs", now.belief[p][f] == 2 ? 1L : 0L);
            words.put("right", (long) fact(f, 1));
            words.put("wrong", (long) fact(f, 2));
            boolean[] right = new boolean[people()];
            for (int q = 0; q < people(); q++) {
                right[q] = now.belief[q][f] == 1;
            }
            values.add(t.of(words, right));
        }
        switch (kind) {
            case "first": return values.indexOf(1L);
            case "last": return values.lastIndexOf(1L);
            case "most": return values.stream().mapToLong(v -> v).max().orElse(0);
            case "least": return values.stream().mapToLong(v -> v).min().orElse(0);
            default: return values.stream().mapToLong(v -> v).sum();
        }
    }

    static int sum(List<Integer> bytes) {
        int c = 43;
        for (int b : bytes) {
            c = (3 * c + b) % 251;
        }
        return c;
    }

    int image() {
        image.clear();
        image.add(now.year >> 8);
        image.add(now.year & 255);
        for (int p = 0; p < people(); p++) {
            image.add(now.master[p] + 1);
            image.add(person(p, 3));
            image.add(person(p, 4));
            image.add(now.left[p]);
            image.add(person(p, 6) + 2 * person(p, 7));
        }
        image.add(sum(image));
        return image.size();
    }

    int octet(int k) {
        return k >= 0 && k < image.size() ? image.get(k) : NONE;
    }

    boolean on() {
        String s = takeTape();
        World w = new World(people(), facts());
        if (s.length() != 3 + 5 * people()) {
            return deny(5);
        }
        List<Integer> bytes = new ArrayList<>();
        s.chars().limit(s.length() - 1).forEach(bytes::add);
        w.year = bytes.get(0) * 256 + bytes.get(1);
        boolean fine = sum(bytes) == s.charAt(s.length() - 1) && w.year <= 999;
        for (int p = 0; p < people(); p++) {
            List<Integer> row = bytes.subList(2 + 5 * p, 7 + 5 * p);
            fine &= row.get(0) <= people() && row.get(1) >> facts() == 0 && row.get(2) >> facts() == 0
                    && (row.get(1) & row.get(2)) == 0 && row.get(3) <= 9 && row.get(4) <= 3;
            w.master[p] = row.get(0) - 1;
            for (int f = 0; f < facts(); f++) {
                w.belief[p][f] = (row.get(1) >> f & 1) + 2 * (row.get(2) >> f & 1);
            }
            w.left[p] = row.get(3);
            w.passed[p] = (row.get(4) & 1) != 0;
            w.doctor[p] = (row.get(4) & 2) != 0;
        }
        for (int p = 0; fine && p < people(); p++) {
            fine = !w.mastersOf(p).contains(p);
        }
        if (!fine) {
            return deny(5);
        }
        now = w;
        past.clear();
        return true;
    }

    int status(int what) {
        return what >= 0 && what < 6 ? refused[what] : NONE;
    }
}
