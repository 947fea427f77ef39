import java.util.Arrays;

/**
 * Examined by the pupil's pupil: a school told as a text, its years of teaching, and what can be
 * asked of them. Facts and people are known by their numbers, from 0 on, and sets of them are bits.
 */
public final class PupilsPupil {
    public static final int NONE = -1;
    public static final long NOTHING = -1000000000000000L;

    private static final int TAPE_MOST = 1600;
    private static final int FED_AT_ONCE = 20;
    private static final int STATEMENTS_MOST = 80;
    private static final int FACTS_MOST = 8;
    private static final int PEOPLE_MOST = 8;
    private static final int NAME_MOST = 6;
    private static final int DIGITS_MOST = 4;
    private static final int NUMBER_MOST = 9999;
    private static final int OPEN_MOST = 6;
    private static final int VALUE_MOST = 1000000;
    private static final int WORTH_MOST = 9;
    private static final int CALM_MOST = 99;
    private static final int ENOUGH_MOST = 99;
    private static final int ENOUGH_UNTOLD = 10;
    private static final int TRIES_MOST = 9;
    private static final int TRIES_UNTOLD = 3;
    private static final int ILLNESS_MOST = 100;
    private static final int YEAR_MOST = 999;
    private static final int YEARS_AT_ONCE = 100;
    private static final int AHEAD_MOST = 40;
    private static final int TRIAL_MOST = 20;
    private static final int KEPT_MOST = 30;
    private static final int PAST_MOST = 20;
    private static final int HEARD_MOST = 16;
    private static final int IMAGE_HEAD = 2;
    private static final int IMAGE_ROW = 5;
    private static final int IMAGE_MOST = IMAGE_HEAD + IMAGE_ROW * PEOPLE_MOST + 1;

    private static final int NO_GRAMMAR = 1;
    private static final int NO_NUMBER = 2;
    private static final int NO_NAME = 3;
    private static final int TOO_DEEP = 4;
    private static final int TOO_MANY = 5;

    private static final int OF_TAPE = 0;
    private static final int OF_TEXTS = 1;
    private static final int OF_CHANGES = 2;
    private static final int OF_YEARS = 3;
    private static final int OF_UNDO = 4;
    private static final int OF_SETTINGS = 5;
    private static final int REFUSALS = 6;

    private static final int HAS_PASSED = 1;
    private static final int IS_DOCTOR = 2;

    private static final int NEITHER = 0;
    private static final int RIGHTLY = 1;
    private static final int WRONGLY = 2;

    private static final int LAW_TAKES = 0;
    private static final int LAW_GARBLE = 1;
    private static final int LAW_SITS = 2;
    private static final int LAWS = 3;

    // Where a word is a PART: in takes and garble, in sits, in a question.
    private static final int IN_LESSON = 1;
    private static final int IN_SITS = 2;
    private static final int IN_QUESTION = 4;
    private static final int ANYWHERE = 7;

    // The values that a formula can ask for, by their places in a row.
    private static final int SLOT_CALM = 0;
    private static final int SLOT_RIGHT = 1;
    private static final int SLOT_WRONG = 2;
    private static final int SLOT_YEAR = 3;
    private static final int SLOT_WORTH = 4;
    private static final int SLOT_CLASS = 5;
    private static final int SLOT_MCALM = 6;
    private static final int SLOT_LEFT = 7;
    private static final int SLOT_MARKS = 8;
    private static final int SLOT_NUMBER = 9;
    private static final int SLOT_KNOWS = 10;
    private static final int SLOT_ERRS = 11;
    private static final int SLOT_WHO_IS_RIGHT = 12;
    private static final int SLOTS = 13;

    private final Text text = new Text();
    private final School school = new School();
    private final State now = new State();
    private final State loaded = new State();
    private final State[] past = new State[PAST_MOST];
    private int pastFirst = 0;
    private int pastCount = 0;
    private final Calendar calendar = new Calendar(school);
    private final Foresight foresight = new Foresight(school, now, calendar);
    private final Rumour rumour = new Rumour(school, now, calendar);
    private final SchoolReader schoolReader = new SchoolReader(text);
    private final Question question = new Question(text, school, now);
    private final int[] refused = new int[REFUSALS];
    private final int[] imageBytes = new int[IMAGE_MOST];
    private int imageLength = 0;
    private int drawn = 1;

    public PupilsPupil() {
        for (int k = 0; k < PAST_MOST; k++) {
            past[k] = new State();
        }
    }

    // ---- the tape, the school

    public int feed(int a, int b, int c, int d, int e) {
        if (text.length + FED_AT_ONCE > TAPE_MOST) {
            return refuse(OF_TAPE);
        }
        text.append(a);
        text.append(b);
        text.append(c);
        text.append(d);
        text.append(e);
        return text.length;
    }

    public boolean end(int n) {
        if (n < 0 || n > text.length) {
            return deny(OF_TAPE);
        }
        text.length = n;
        return true;
    }

    public int school() {
        int statements = schoolReader.read();
        text.length = 0;
        if (statements == NONE) {
            return refuse(OF_TEXTS);
        }
        school.copyFrom(schoolReader.draft);
        now.copyFrom(school.start);
        forgetPast();
        rumour.rows = 0;
        return statements;
    }

    public int fault(int what) {
        return what == 0 ? text.fault : what == 1 ? text.place : NONE;
    }

    public int has(int what) {
        switch (what) {
            case 0: return school.facts;
            case 1: return school.people;
            case 2: return school.enough;
            case 3: return school.triesTold;
            case 4: return now.year;
            case 5: return Integer.bitCount(now.passed);
            case 6: return Integer.bitCount(now.doctors);
            case 7: return countBits(now.wrong);
            case 8: return now.keptCount;
            case 9: return rumour.rows;
            case 10: return pastCount;
            default: return NONE;
        }
    }

    public int letter(int kind, int which, int k) {
        if (k < 0 || k >= NAME_MOST) {
            return NONE;
        }
        if (kind == 0 && isFact(which)) {
            return school.factNames[which] >> 5 * k & 31;
        }
        if (kind == 1 && isPerson(which)) {
            return school.personNames[which] >> 5 * k & 31;
        }
        return NONE;
    }

    public int fact(int fact, int what) {
        if (!isFact(fact)) {
            return NONE;
        }
        switch (what) {
            case 0: return school.worth[fact];
            case 1: return Integer.bitCount(whoHas(now.right, fact));
            case 2: return Integer.bitCount(whoHas(now.wrong, fact));
            default: return NONE;
        }
    }

    public int person(int person, int what) {
        if (!isPerson(person)) {
            return NONE;
        }
        switch (what) {
            case 0: return school.calm[person];
            case 1: return now.masters[person];
            case 2: return now.pupilsOf(person);
            case 3: return now.right[person];
            case 4: return now.wrong[person];
            case 5: return now.left[person];
            case 6: return hasBit(now.passed, person) ? 1 : 0;
            case 7: return hasBit(now.doctors, person) ? 1 : 0;
            default: return NONE;
        }
    }

    public long marks(int person) {
        return isPerson(person) ? school.marksIn(now, person) : NOTHING;
    }

    public int next(int person) {
        return isPerson(person) ? calendar.lessonOf(now, person) : NONE;
    }

    public int kept(int k, int what) {
        if (k < 0 || k >= now.keptCount || k >= KEPT_MOST) {
            return NONE;
        }
        switch (what) {
            case 0: return now.keptRows[k] / 4 / PEOPLE_MOST;
            case 1: return now.keptRows[k] / 4 % PEOPLE_MOST;
            case 2: return now.keptRows[k] % 4;
            default: return NONE;
        }
    }

    // ---- ahead

    public int later(int n, int what) {
        if (!foresight.reaches(n, AHEAD_MOST)) {
            return NONE;
        }
        State then = foresight.after(n);
        switch (what) {
            case 0: return then.passed;
            case 1: return then.doctors;
            case 2: return countBits(then.wrong);
            case 3: return countBits(then.right);
            default: return NONE;
        }
    }

    public int doctor(int person) {
        return isPerson(person) ? foresight.yearsToDoctor(person) : NONE;
    }

    public int lost(int fact) {
        return isFact(fact) ? foresight.yearsToLoss(fact) : NONE;
    }

    // ---- masters, gifts, tries

    public int master(int person, int what) {
        if (!isPerson(person) || !isPairPart(what)) {
            return NONE;
        }
        foresight.findMaster(person);
        return what == 0 ? foresight.foundFirst : foresight.foundSecond;
    }

    public int gift(int person, int n, int what) {
        if (!isPerson(person) || !isPairPart(what) || !foresight.reaches(n, TRIAL_MOST)) {
            return NONE;
        }
        foresight.findGift(person, n);
        return what == 0 ? foresight.foundFirst : foresight.foundSecond;
    }

    public int law(int n, int what) {
        if (!isPairPart(what) || !foresight.reaches(n, TRIAL_MOST)) {
            return NONE;
        }
        foresight.findTries(n);
        return what == 0 ? foresight.foundFirst : foresight.foundSecond;
    }

    // ---- who had it first

    public int hear() {
        boolean taken = rumour.take(text);
        text.length = 0;
        return taken ? rumour.rows : refuse(OF_TEXTS);
    }

    public int sources(int fact, int n) {
        if (!isFact(fact) || !foresight.reaches(n, TRIAL_MOST)) {
            return NONE;
        }
        return rumour.findSources(fact, n);
    }

    public int probe(int fact, int n, int what) {
        if (!isFact(fact) || !isPairPart(what) || !foresight.reaches(n, TRIAL_MOST)) {
            return NONE;
        }
        rumour.findProbe(rumour.findSources(fact, n));
        return what == 0 ? rumour.probed : rumour.leftAtMost;
    }

    public int part(int good, int bad) {
        int all = (1 << school.people) - 1;
        if ((good & ~all) != 0 || (bad & ~all) != 0 || (good & bad) != 0) {
            return NONE;
        }
        int best = NONE;
        for (int facts = 0; facts < 1 << school.facts; facts++) {
            boolean fewer = best == NONE || Integer.bitCount(facts) < Integer.bitCount(best);
            if (fewer && isParted(facts, good, bad)) {
                best = facts;
            }
        }
        return best;
    }

    // ---- acts

    public boolean teach(int person, int master) {
        if (!isPerson(person) || master != NONE && !isPerson(master)) {
            return deny(OF_CHANGES);
        }
        if (master == now.masters[person] || master == person || now.isAbove(person, master)) {
            return deny(OF_CHANGES);
        }
        remember();
        now.masters[person] = master;
        return true;
    }

    public boolean tell(int person, int fact) {
        if (!isPerson(person) || !isFact(fact) || hasBit(now.right[person], fact)) {
            return deny(OF_CHANGES);
        }
        remember();
        now.believe(person, fact, RIGHTLY);
        return true;
    }

    public int years(int n) {
        if (!canRun(n)) {
            return refuse(OF_YEARS);
        }
        remember();
        int passed = 0;
        for (int k = 0; k < n; k++) {
            passed += calendar.runYear(now, 0);
        }
        return passed;
    }

    public int chance(int n) {
        if (!canRun(n)) {
            return refuse(OF_YEARS);
        }
        remember();
        int often = 0;
        for (int k = 0; k < n; k++) {
            int away = drawIll();
            often += Integer.bitCount(away);
            calendar.runYear(now, away);
        }
        return often;
    }

    public boolean undo() {
        if (pastCount == 0) {
            return deny(OF_UNDO);
        }
        pastCount--;
        now.copyFrom(past[(pastFirst + pastCount) % PAST_MOST]);
        return true;
    }

    public boolean seed(int seed) {
        if (seed < 0) {
            return deny(OF_SETTINGS);
        }
        drawn = seed;
        return true;
    }

    // ---- questions

    public long ask(int person) {
        boolean asked = isPerson(person) && question.read();
        text.length = 0;
        return asked ? question.answerFor(person) : NOTHING;
    }

    // ---- images, refusals

    public int image() {
        imageLength = now.writeImage(imageBytes, school.people);
        return imageLength;
    }

    public int octet(int k) {
        return k >= 0 && k < imageLength && k < IMAGE_MOST ? imageBytes[k] : NONE;
    }

    public boolean on() {
        boolean fits = loaded.readImage(text, school);
        text.length = 0;
        if (!fits) {
            return deny(OF_SETTINGS);
        }
        now.copyFrom(loaded);
        forgetPast();
        return true;
    }

    public int status(int what) {
        return what >= 0 && what < REFUSALS ? refused[what] : NONE;
    }

    // ---- helpers of the face

    private int refuse(int kind) {
        if (kind >= 0 && kind < REFUSALS) {
            refused[kind]++;
        }
        return NONE;
    }

    private boolean deny(int kind) {
        refuse(kind);
        return false;
    }

    private boolean isFact(int fact) {
        return fact >= 0 && fact < school.facts && fact < FACTS_MOST;
    }

    private boolean isPerson(int person) {
        return person >= 0 && person < school.people && person < PEOPLE_MOST;
    }

    private static boolean isPairPart(int what) {
        return what == 0 || what == 1;
    }

    private static boolean hasBit(int bits, int k) {
        return k >= 0 && k < 31 && (bits >> k & 1) == 1;
    }

    private static int countBits(int[] rows) {
        int count = 0;
        for (int k = 0; k < rows.length; k++) {
            count += Integer.bitCount(rows[k]);
        }
        return count;
    }

    private static int whoHas(int[] rows, int fact) {
        int people = 0;
        for (int k = 0; k < rows.length && k < PEOPLE_MOST; k++) {
            people |= hasBit(rows[k], fact) ? 1 << k : 0;
        }
        return people;
    }

    private boolean isParted(int facts, int good, int bad) {
        int leastGood = FACTS_MOST + 1;
        int mostBad = NONE;
        for (int k = 0; k < PEOPLE_MOST; k++) {
            int count = Integer.bitCount(now.right[k] & facts);
            if (hasBit(good, k)) {
                leastGood = Math.min(leastGood, count);
            }
            if (hasBit(bad, k)) {
                mostBad = Math.max(mostBad, count);
            }
        }
        return leastGood > mostBad;
    }

    private boolean canRun(int n) {
        return n >= 1 && n <= YEARS_AT_ONCE && now.year + n <= YEAR_MOST;
    }

    private int drawIll() {
        int away = 0;
        for (int k = 0; k < school.people; k++) {
            drawn = (int) (1103515245L * drawn + 12345L & 0x7fffffffL);
            if (drawn / 64 % 100 < school.illness) {
                away |= 1 << k;
            }
        }
        return away;
    }

    private void remember() {
        past[(pastFirst + pastCount) % PAST_MOST].copyFrom(now);
        if (pastCount < PAST_MOST) {
            pastCount++;
        } else {
            pastFirst = (pastFirst + 1) % PAST_MOST;
        }
    }

    private void forgetPast() {
        pastFirst = 0;
        pastCount = 0;
    }

    /** The words of schools and questions, packed like names: five bits a letter, the first lowest. */
    private enum Word {
        FACT("fact"),
        PERSON("person"),
        TAUGHT("taught"),
        BY("by"),
        TAKES("takes"),
        GARBLE("garble"),
        SITS("sits"),
        PASS("pass"),
        TRIES("tries"),
        ILL("ill"),
        OR("or"),
        AND("and"),
        NOT("not"),
        ALL("all"),
        MIN("min"),
        MAX("max"),
        CALM("calm", SLOT_CALM, ANYWHERE),
        RIGHT("right", SLOT_RIGHT, ANYWHERE),
        WRONG("wrong", SLOT_WRONG, ANYWHERE),
        YEAR("year", SLOT_YEAR, ANYWHERE),
        WORTH("worth", SLOT_WORTH, IN_LESSON | IN_QUESTION),
        CLASS("class", SLOT_CLASS, IN_LESSON),
        MCALM("mcalm", SLOT_MCALM, IN_LESSON),
        LEFT("left", SLOT_LEFT, IN_SITS | IN_QUESTION),
        MARKS("marks", SLOT_MARKS, IN_SITS | IN_QUESTION),
        NUMBER("number", SLOT_NUMBER, IN_QUESTION),
        KNOWS("knows", SLOT_KNOWS, IN_QUESTION),
        ERRS("errs", SLOT_ERRS, IN_QUESTION),
        FIRST("first", false),
        LAST("last", false),
        OFTEN("often", false),
        TOTAL("total", false),
        MOST("most", false),
        LEAST("least", false);

        private static final Word[] WORDS = values();

        private final int packed;
        private final boolean own;
        private final int slot;
        private final int scopes;

        Word(String letters) {
            this(letters, true, 0, 0);
        }

        Word(String letters, boolean own) {
            this(letters, own, 0, 0);
        }

        Word(String letters, int slot, int scopes) {
            this(letters, true, slot, scopes);
        }

        Word(String letters, boolean own, int slot, int scopes) {
            int name = 0;
            for (int k = 0; k < letters.length(); k++) {
                name |= (letters.charAt(k) - 'a' + 1) << 5 * k;
            }
            this.packed = name;
            this.own = own;
            this.slot = slot;
            this.scopes = scopes;
        }

        static Word of(int packed) {
            for (int k = 0; k < WORDS.length; k++) {
                if (WORDS[k].packed == packed) {
                    return WORDS[k];
                }
            }
            return null;
        }
    }

    /** The tape, and the reading of words, numbers and signs along it up to the first fault. */
    private static final class Text {
        // What stands next is a sign's own byte, NONE at the end, or one of these.
        static final int A_WORD = 256;
        static final int A_NUMBER = 257;
        static final int GLUED = 258;

        final int[] bytes = new int[TAPE_MOST];
        int length = 0;
        int fault = 0;
        int place = NONE;
        // What stands next: its first byte, the byte behind it, what it is; a word's letters
        // (0 when it is none, or too long for a known word or a name), a number's value.
        int start = 0;
        int stop = 0;
        int kind = NONE;
        int packed = 0;
        int value = 0;

        void append(int four) {
            for (int shift = 24; shift >= 0; shift -= 8) {
                if (length < TAPE_MOST) {
                    bytes[length] = four >> shift & 255;
                    length++;
                }
            }
        }

        int byteAt(int k) {
            return k >= 0 && k < length && k < TAPE_MOST ? bytes[k] : NONE;
        }

        void open() {
            fault = 0;
            place = NONE;
            stop = 0;
            advance();
        }

        boolean fail(int fault, int place) {
            this.fault = fault;
            this.place = place;
            return false;
        }

        boolean failHere() {
            fault = NO_GRAMMAR;
            place = start;
            return false;
        }

        /** Goes on to what stands next; words and numbers are taken whole, however long. */
        void advance() {
            int at = stop;
            while (at < length && (bytes[at] == ' ' || bytes[at] == '\n')) {
                at++;
            }
            int before = at >= 1 && at <= length ? bytes[at - 1] : NONE;
            start = at;
            kind = at < length ? bytes[at] : NONE;
            packed = 0;
            value = 0;
            if (kind >= 'a' && kind <= 'z') {
                kind = before >= '0' && before <= '9' ? GLUED : A_WORD;
                while (at < length && bytes[at] >= 'a' && bytes[at] <= 'z') {
                    int letter = bytes[at] - 'a' + 1;
                    packed = at - start < NAME_MOST ? packed | (letter << 5 * (at - start)) : 0;
                    at++;
                }
            } else if (kind >= '0' && kind <= '9') {
                kind = before >= 'a' && before <= 'z' ? GLUED : A_NUMBER;
                while (at < length && bytes[at] >= '0' && bytes[at] <= '9') {
                    value = at - start < DIGITS_MOST ? value * 10 + bytes[at] - '0' : value;
                    at++;
                }
            } else if (at < length) {
                at++;
            }
            stop = at;
        }

        boolean isWord(Word wanted) {
            return kind == A_WORD && packed == wanted.packed;
        }

        /** The known word that stands next; null when there is none. */
        Word knownWord() {
            return kind == A_WORD ? Word.of(packed) : null;
        }

        boolean expectWord(Word wanted) {
            if (!isWord(wanted)) {
                return failHere();
            }
            advance();
            return true;
        }

        boolean expectSign(char wanted) {
            if (kind != wanted) {
                return failHere();
            }
            advance();
            return true;
        }

        /** The number that stands next, within these; NONE with a fault. */
        int takeNumber(int least, int most) {
            int taken = NONE;
            if (kind != A_NUMBER) {
                failHere();
            } else if (stop - start > DIGITS_MOST) {
                fail(NO_GRAMMAR, start + DIGITS_MOST);
            } else if (value < least || value > most) {
                fail(NO_NUMBER, start);
            } else {
                taken = value;
                advance();
            }
            return taken;
        }

        /** The name that stands next, packed; NONE with a fault. */
        int takeName() {
            int taken = NONE;
            Word word = knownWord();
            if (kind != A_WORD) {
                failHere();
            } else if (stop - start > NAME_MOST) {
                fail(NO_GRAMMAR, start + NAME_MOST);
            } else if (word != null && word.own) {
                failHere();
            } else {
                taken = packed;
                advance();
            }
            return taken;
        }
    }

    /** Tests and sums as rows of steps for a stack: operands first, then what is done with them. */
    private static final class Formula {
        // A step from 0 on is a number, one from -SLOTS to -1 asks for a value, the others act.
        static final int ADD = -20;
        static final int SUBTRACT = -21;
        static final int MULTIPLY = -22;
        static final int DIVIDE = -23;
        static final int LESSER = -24;
        static final int GREATER = -25;
        static final int IS_LESS = -26;
        static final int IS_MORE = -27;
        static final int IS_SAME = -28;
        static final int BOTH = -29;
        static final int EITHER = -30;
        static final int NEGATE = -31;
        static final int RIGHT_BY = -32;

        // Six open brackets with three operands waiting in each stay far below this.
        static final int STACK_MOST = 64;

        final int[] steps = new int[TAPE_MOST];
        // Each part is the steps from .. to; none of them, if it is not told.
        final int[] from = new int[LAWS];
        final int[] to = new int[LAWS];
        final int[] stack = new int[STACK_MOST];
        int size = 0;

        void clear() {
            size = 0;
            Arrays.fill(from, 0);
            Arrays.fill(to, 0);
        }

        void copyFrom(Formula other) {
            System.arraycopy(other.steps, 0, steps, 0, TAPE_MOST);
            System.arraycopy(other.from, 0, from, 0, LAWS);
            System.arraycopy(other.to, 0, to, 0, LAWS);
            size = other.size;
        }

        boolean isTold(int part) {
            return part >= 0 && part < LAWS && to[part] > from[part];
        }

        void begin(int part) {
            if (part >= 0 && part < LAWS) {
                from[part] = size;
            }
        }

        void finish(int part) {
            if (part >= 0 && part < LAWS) {
                to[part] = size;
            }
        }

        void add(int step) {
            // Each step is made of a byte of the tape at least, so the row never runs full.
            if (size < TAPE_MOST) {
                steps[size] = step;
                size++;
            }
        }

        void addSlot(int slot) {
            add(-1 - slot);
        }

        /** What a part comes to by these values: a sum's number, or a test's 1 or 0. */
        int value(int part, int[] slots) {
            if (!isTold(part) || slots.length < SLOTS) {
                return 0;
            }
            int top = 0;
            for (int k = Math.max(from[part], 0); k < to[part] && k < TAPE_MOST; k++) {
                int step = steps[k];
                if (step >= -SLOTS) {
                    if (top < STACK_MOST) {
                        stack[top] = step >= 0 ? step : slots[-1 - step];
                        top++;
                    }
                } else if (step == NEGATE && top >= 1) {
                    stack[top - 1] = 1 - stack[top - 1];
                } else if (step == RIGHT_BY && top >= 1) {
                    stack[top - 1] = hasBit(slots[SLOT_WHO_IS_RIGHT], stack[top - 1]) ? 1 : 0;
                } else if (top >= 2) {
                    top--;
                    stack[top - 1] = joined(step, stack[top - 1], stack[top]);
                }
            }
            return top >= 1 ? stack[top - 1] : 0;
        }

        private static int joined(int step, int left, int right) {
            switch (step) {
                case ADD: return limited((long) left + right);
                case SUBTRACT: return limited((long) left - right);
                case MULTIPLY: return limited((long) left * right);
                case DIVIDE: return right == 0 ? 0 : Math.floorDiv(left, right);
                case LESSER: return left < right ? left : right;
                case GREATER: return left > right ? left : right;
                case IS_LESS: return left < right ? 1 : 0;
                case IS_MORE: return left > right ? 1 : 0;
                case IS_SAME: return left == right ? 1 : 0;
                case BOTH: return left & right;
                case EITHER: return left | right;
                default: return 0;
            }
        }

        private static int limited(long value) {
            if (value > VALUE_MOST) {
                return VALUE_MOST;
            }
            return value < -VALUE_MOST ? -VALUE_MOST : (int) value;
        }
    }

    /**
     * Reads tests and sums into a formula; every method answers false once there is a fault.
     * How many brackets (and not, by) are open is carried along, and ends what would go too deep.
     */
    private static final class Grammar {
        final Text text;
        final Formula into;
        int scope = 0;

        Grammar(Text text, Formula into) {
            this.text = text;
            this.into = into;
        }

        private boolean readTest(int open) {
            boolean fine = readBoth(open);
            for (int n = 0; n < TAPE_MOST && fine && text.isWord(Word.OR); n++) {
                text.advance();
                fine = readBoth(open);
                into.add(Formula.EITHER);
            }
            return fine;
        }

        private boolean readBoth(int open) {
            boolean fine = readClaim(open);
            for (int n = 0; n < TAPE_MOST && fine && text.isWord(Word.AND); n++) {
                text.advance();
                fine = readClaim(open);
                into.add(Formula.BOTH);
            }
            return fine;
        }

        /** Goes past what opens, unless too much is open already. */
        private boolean opens(int open) {
            if (open >= OPEN_MOST) {
                return text.fail(TOO_DEEP, text.start);
            }
            text.advance();
            return true;
        }

        // What the document calls the FACT of a TEST, which is none of the school's facts.
        private boolean readClaim(int open) {
            if (text.isWord(Word.NOT)) {
                boolean fine = opens(open) && readClaim(open + 1);
                into.add(Formula.NEGATE);
                return fine;
            }
            if (text.isWord(Word.ALL)) {
                text.advance();
                into.add(1);
                return true;
            }
            if (text.kind == '[') {
                return opens(open) && readTest(open + 1) && text.expectSign(']');
            }
            if (!readSum(open)) {
                return false;
            }
            int sign = text.kind;
            if (sign != '<' && sign != '>' && sign != '=') {
                return text.failHere();
            }
            text.advance();
            boolean fine = readSum(open);
            int unequal = sign == '<' ? Formula.IS_LESS : Formula.IS_MORE;
            into.add(sign == '=' ? Formula.IS_SAME : unequal);
            return fine;
        }

        private boolean readSum(int open) {
            boolean fine = readProduct(open);
            for (int n = 0; n < TAPE_MOST && fine && (text.kind == '+' || text.kind == '-'); n++) {
                int step = text.kind == '+' ? Formula.ADD : Formula.SUBTRACT;
                text.advance();
                fine = readProduct(open);
                into.add(step);
            }
            return fine;
        }

        private boolean readProduct(int open) {
            boolean fine = readPart(open);
            for (int n = 0; n < TAPE_MOST && fine && (text.kind == '*' || text.kind == '/'); n++) {
                int step = text.kind == '*' ? Formula.MULTIPLY : Formula.DIVIDE;
                text.advance();
                fine = readPart(open);
                into.add(step);
            }
            return fine;
        }

        private boolean readPart(int open) {
            if (text.kind == Text.A_NUMBER) {
                int number = text.takeNumber(0, NUMBER_MOST);
                into.add(number);
                return number != NONE;
            }
            if (text.kind == '(') {
                return opens(open) && readSum(open + 1) && text.expectSign(')');
            }
            Word word = text.knownWord();
            if (word == Word.MIN || word == Word.MAX) {
                text.advance();
                return readPair(word == Word.MIN ? Formula.LESSER : Formula.GREATER, open);
            }
            if (word == Word.BY && scope == IN_QUESTION) {
                boolean fine = opens(open) && readPart(open + 1);
                into.add(Formula.RIGHT_BY);
                return fine;
            }
            if (word == null || (word.scopes & scope) == 0) {
                return text.failHere();
            }
            text.advance();
            into.addSlot(word.slot);
            return true;
        }

        private boolean readPair(int step, int open) {
            if (text.kind != '(') {
                return text.failHere();
            }
            boolean fine = opens(open) && readSum(open + 1) && text.expectSign(',')
                    && readSum(open + 1) && text.expectSign(')');
            into.add(step);
            return fine;
        }
    }

    /** What a school's text tells, with the state that its years start from. */
    private static final class School {
        int facts = 0;
        int people = 0;
        int enough = ENOUGH_UNTOLD;
        int triesTold = TRIES_UNTOLD;
        int illness = 0;
        final int[] factNames = new int[FACTS_MOST];
        final int[] worth = new int[FACTS_MOST];
        final int[] personNames = new int[PEOPLE_MOST];
        final int[] calm = new int[PEOPLE_MOST];
        final Formula tests = new Formula();
        final State start = new State();

        void clear() {
            facts = 0;
            people = 0;
            enough = ENOUGH_UNTOLD;
            triesTold = TRIES_UNTOLD;
            illness = 0;
            tests.clear();
            start.clear();
        }

        void copyFrom(School other) {
            facts = other.facts;
            people = other.people;
            enough = other.enough;
            triesTold = other.triesTold;
            illness = other.illness;
            System.arraycopy(other.factNames, 0, factNames, 0, FACTS_MOST);
            System.arraycopy(other.worth, 0, worth, 0, FACTS_MOST);
            System.arraycopy(other.personNames, 0, personNames, 0, PEOPLE_MOST);
            System.arraycopy(other.calm, 0, calm, 0, PEOPLE_MOST);
            tests.copyFrom(other.tests);
            start.copyFrom(other.start);
        }

        int marksIn(State state, int person) {
            int sum = 0;
            for (int k = 0; k < facts && k < FACTS_MOST; k++) {
                int belief = state.beliefOf(person, k);
                sum += belief == RIGHTLY ? worth[k] : belief == WRONGLY ? -worth[k] : 0;
            }
            return sum;
        }

        static int placeOf(int name, int[] names, int count) {
            for (int k = 0; k < count && k < names.length; k++) {
                if (names[k] == name) {
                    return k;
                }
            }
            return NONE;
        }
    }

    /** Reads the tape as a school, into a draft, so that a fault leaves the school as it is. */
    private static final class SchoolReader {
        final Text text;
        final School draft = new School();
        final Grammar grammar;

        SchoolReader(Text text) {
            this.text = text;
            this.grammar = new Grammar(text, draft.tests);
        }

        /** How many statements there are; NONE with a fault. */
        int read() {
            text.open();
            draft.clear();
            int count = 0;
            while (count < STATEMENTS_MOST && text.kind != NONE) {
                if (!readStatement() || !text.expectSign(';')) {
                    return NONE;
                }
                count++;
            }
            if (text.kind != NONE) {
                text.fail(TOO_MANY, text.start);
                return NONE;
            }
            for (int k = 0; k < draft.people && k < PEOPLE_MOST; k++) {
                draft.start.left[k] = draft.triesTold;
            }
            return count;
        }

        private boolean readStatement() {
            Word word = text.knownWord();
            if (word == null) {
                return text.failHere();
            }
            switch (word) {
                case FACT: return readFact();
                case PERSON: return readPerson();
                case KNOWS: return readBelief(RIGHTLY);
                case ERRS: return readBelief(WRONGLY);
                case TAUGHT: return readTaught();
                case TAKES: return readLaw(LAW_TAKES, IN_LESSON);
                case GARBLE: return readLaw(LAW_GARBLE, IN_LESSON);
                case SITS: return readLaw(LAW_SITS, IN_SITS);
                case PASS: return readEnough();
                case TRIES: return readTries();
                case ILL: return readIllness();
                default: return text.failHere();
            }
        }

        private boolean readFact() {
            int which = draft.facts;
            if (which >= FACTS_MOST) {
                return text.fail(TOO_MANY, text.start);
            }
            text.advance();
            int name = takeNewName();
            if (name == NONE || !text.expectWord(Word.WORTH)) {
                return false;
            }
            int worth = text.takeNumber(1, WORTH_MOST);
            draft.factNames[which] = name;
            draft.worth[which] = worth;
            draft.facts++;
            return worth != NONE;
        }

        private boolean readPerson() {
            int which = draft.people;
            if (which >= PEOPLE_MOST) {
                return text.fail(TOO_MANY, text.start);
            }
            text.advance();
            int name = takeNewName();
            if (name == NONE || !text.expectWord(Word.CALM)) {
                return false;
            }
            int calm = text.takeNumber(0, CALM_MOST);
            draft.personNames[which] = name;
            draft.calm[which] = calm;
            draft.people++;
            return calm != NONE;
        }

        private int takeNewName() {
            int where = text.start;
            int name = text.takeName();
            if (name == NONE) {
                return NONE;
            }
            if (School.placeOf(name, draft.factNames, draft.facts) != NONE
                    || School.placeOf(name, draft.personNames, draft.people) != NONE) {
                text.fail(NO_NAME, where);
                return NONE;
            }
            return name;
        }

        /** The number of the one whose name stands next; NONE with a fault. */
        private int takeKnown(int[] names, int count) {
            int where = text.start;
            int name = text.takeName();
            if (name == NONE) {
                return NONE;
            }
            int which = School.placeOf(name, names, count);
            if (which == NONE) {
                text.fail(NO_NAME, where);
            }
            return which;
        }

        private boolean readBelief(int belief) {
            text.advance();
            int person = takeKnown(draft.personNames, draft.people);
            if (person == NONE) {
                return false;
            }
            int where = text.start;
            int fact = takeKnown(draft.factNames, draft.facts);
            if (fact == NONE) {
                return false;
            }
            if (draft.start.beliefOf(person, fact) != NEITHER) {
                return text.fail(NO_NAME, where);
            }
            draft.start.believe(person, fact, belief);
            return true;
        }

        private boolean readTaught() {
            text.advance();
            int where = text.start;
            int pupil = takeKnown(draft.personNames, draft.people);
            if (pupil == NONE) {
                return false;
            }
            if (draft.start.masterOf(pupil) != NONE) {
                return text.fail(NO_NAME, where);
            }
            if (!text.expectWord(Word.BY)) {
                return false;
            }
            where = text.start;
            int master = takeKnown(draft.personNames, draft.people);
            if (master == NONE) {
                return false;
            }
            if (master == pupil || draft.start.isAbove(pupil, master)) {
                return text.fail(NO_NAME, where);
            }
            draft.start.setMaster(pupil, master);
            return true;
        }

        private boolean readLaw(int test, int scope) {
            if (draft.tests.isTold(test)) {
                return text.fail(TOO_MANY, text.start);
            }
            text.advance();
            grammar.scope = scope;
            draft.tests.begin(test);
            boolean fine = grammar.readTest(0);
            draft.tests.finish(test);
            return fine;
        }

        private boolean readEnough() {
            text.advance();
            draft.enough = text.takeNumber(0, ENOUGH_MOST);
            return draft.enough != NONE;
        }

        private boolean readTries() {
            text.advance();
            draft.triesTold = text.takeNumber(0, TRIES_MOST);
            return draft.triesTold != NONE;
        }

        private boolean readIllness() {
            text.advance();
            draft.illness = text.takeNumber(0, ILLNESS_MOST);
            return draft.illness != NONE;
        }
    }

    /** Reads the tape as a question of all facts, and answers it for a person. */
    private static final class Question {
        final Text text;
        final School school;
        final State now;
        final Formula formula = new Formula();
        final int[] slots = new int[SLOTS];
        final Grammar grammar;
        Word asked = Word.OFTEN;

        Question(Text text, School school, State now) {
            this.text = text;
            this.school = school;
            this.now = now;
            this.grammar = new Grammar(text, formula);
            this.grammar.scope = IN_QUESTION;
        }

        boolean read() {
            text.open();
            formula.clear();
            asked = text.knownWord();
            boolean ofTest = asked == Word.FIRST || asked == Word.LAST || asked == Word.OFTEN;
            boolean ofSum = asked == Word.TOTAL || asked == Word.MOST || asked == Word.LEAST;
            if (!ofTest && !ofSum) {
                return text.failHere();
            }
            text.advance();
            formula.begin(0);
            boolean fine = ofTest ? grammar.readTest(0) : grammar.readSum(0);
            formula.finish(0);
            return fine && (text.kind == NONE || text.failHere());
        }

        long answerFor(int person) {
            long answer = asked == Word.FIRST || asked == Word.LAST ? NONE : 0;
            for (int fact = 0; fact < school.facts; fact++) {
                fillSlots(person, fact);
                int value = formula.value(0, slots);
                if (asked == Word.MOST) {
                    answer = fact == 0 ? value : Math.max(answer, value);
                } else if (asked == Word.LEAST) {
                    answer = fact == 0 ? value : Math.min(answer, value);
                } else if (asked == Word.LAST) {
                    answer = value != 0 ? fact : answer;
                } else if (asked == Word.FIRST) {
                    answer = value != 0 && answer == NONE ? fact : answer;
                } else {
                    answer += value;
                }
            }
            return answer;
        }

        private void fillSlots(int person, int fact) {
            if (!State.isPlace(person) || fact < 0 || fact >= FACTS_MOST) {
                return;
            }
            int belief = now.beliefOf(person, fact);
            int rightPeople = whoHas(now.right, fact);
            slots[SLOT_NUMBER] = fact;
            slots[SLOT_WORTH] = school.worth[fact];
            slots[SLOT_KNOWS] = belief == RIGHTLY ? 1 : 0;
            slots[SLOT_ERRS] = belief == WRONGLY ? 1 : 0;
            slots[SLOT_RIGHT] = Integer.bitCount(rightPeople);
            slots[SLOT_WRONG] = Integer.bitCount(whoHas(now.wrong, fact));
            slots[SLOT_CALM] = school.calm[person];
            slots[SLOT_MARKS] = school.marksIn(now, person);
            slots[SLOT_LEFT] = now.left[person];
            slots[SLOT_YEAR] = now.year;
            slots[SLOT_WHO_IS_RIGHT] = rightPeople;
        }
    }

    /** All that years and acts change. */
    private static final class State {
        int year = 0;
        int passed = 0;
        int doctors = 0;
        int keptCount = 0;
        final int[] masters = new int[PEOPLE_MOST];
        final int[] right = new int[PEOPLE_MOST];
        final int[] wrong = new int[PEOPLE_MOST];
        final int[] left = new int[PEOPLE_MOST];
        // Each row is (year * PEOPLE_MOST + person) * 4 + kind: states are copied often.
        final int[] keptRows = new int[KEPT_MOST];

        State() {
            Arrays.fill(masters, NONE);
        }

        void clear() {
            year = 0;
            passed = 0;
            doctors = 0;
            keptCount = 0;
            Arrays.fill(masters, NONE);
            Arrays.fill(right, 0);
            Arrays.fill(wrong, 0);
            Arrays.fill(left, 0);
        }

        void copyFrom(State other) {
            year = other.year;
            passed = other.passed;
            doctors = other.doctors;
            keptCount = other.keptCount;
            System.arraycopy(other.masters, 0, masters, 0, PEOPLE_MOST);
            System.arraycopy(other.right, 0, right, 0, PEOPLE_MOST);
            System.arraycopy(other.wrong, 0, wrong, 0, PEOPLE_MOST);
            System.arraycopy(other.left, 0, left, 0, PEOPLE_MOST);
            System.arraycopy(other.keptRows, 0, keptRows, 0, KEPT_MOST);
        }

        static boolean isPlace(int person) {
            return person >= 0 && person < PEOPLE_MOST;
        }

        int masterOf(int person) {
            return isPlace(person) ? masters[person] : NONE;
        }

        void setMaster(int person, int master) {
            if (isPlace(person)) {
                masters[person] = master;
            }
        }

        /** Whether the upper one is, step by step, the master of the lower one. */
        boolean isAbove(int upper, int lower) {
            int step = masterOf(lower);
            for (int n = 0; n < PEOPLE_MOST && step != NONE; n++) {
                if (step == upper) {
                    return true;
                }
                step = masterOf(step);
            }
            return false;
        }

        int pupilsOf(int person) {
            int pupils = 0;
            for (int k = 0; k < PEOPLE_MOST; k++) {
                pupils |= masters[k] == person ? 1 << k : 0;
            }
            return pupils;
        }

        /** The facts, as bits, that a pupil can learn from a master. */
        int lessonsFor(int pupil, int master) {
            if (!isPlace(pupil) || !isPlace(master)) {
                return 0;
            }
            int unheard = ~(right[pupil] | wrong[pupil]);
            return (right[master] | wrong[master]) & unheard | wrong[pupil] & right[master];
        }

        int beliefOf(int person, int fact) {
            if (!isPlace(person)) {
                return NEITHER;
            }
            if (hasBit(right[person], fact)) {
                return RIGHTLY;
            }
            return hasBit(wrong[person], fact) ? WRONGLY : NEITHER;
        }

        void believe(int person, int fact, int belief) {
            if (!isPlace(person)) {
                return;
            }
            right[person] &= ~(1 << fact);
            wrong[person] &= ~(1 << fact);
            if (belief == RIGHTLY) {
                right[person] |= 1 << fact;
            } else if (belief == WRONGLY) {
                wrong[person] |= 1 << fact;
            }
        }

        void keep(int person, int kind) {
            if (keptCount >= KEPT_MOST) {
                System.arraycopy(keptRows, 1, keptRows, 0, KEPT_MOST - 1);
                keptCount = KEPT_MOST - 1;
            }
            keptRows[keptCount] = (year * PEOPLE_MOST + person) * 4 + kind;
            keptCount++;
        }

        int writeImage(int[] bytes, int people) {
            if (bytes.length < IMAGE_MOST) {
                return 0;
            }
            bytes[0] = year / 256;
            bytes[1] = year % 256;
            int length = IMAGE_HEAD;
            for (int k = 0; k < people && k < PEOPLE_MOST; k++) {
                bytes[length] = masters[k] + 1;
                bytes[length + 1] = right[k];
                bytes[length + 2] = wrong[k];
                bytes[length + 3] = left[k];
                bytes[length + 4] = (hasBit(passed, k) ? 1 : 0) + (hasBit(doctors, k) ? 2 : 0);
                length += IMAGE_ROW;
            }
            int sum = 43;
            for (int k = 0; k < length; k++) {
                sum = (3 * sum + bytes[k]) % 251;
            }
            bytes[length] = sum;
            return length + 1;
        }

        /** Becomes what the tape's image tells; false when it is none, and then this is spoilt. */
        boolean readImage(Text tape, School school) {
            int length = IMAGE_HEAD + IMAGE_ROW * school.people;
            if (tape.length != length + 1 || !isSummed(tape, length)) {
                return false;
            }
            clear();
            year = tape.byteAt(0) * 256 + tape.byteAt(1);
            for (int k = 0; k < school.people; k++) {
                if (!readRow(tape, k, school)) {
                    return false;
                }
            }
            for (int k = 0; k < school.people; k++) {
                if (isAbove(k, k)) {
                    return false;
                }
            }
            return year <= YEAR_MOST;
        }

        private static boolean isSummed(Text tape, int length) {
            int sum = 43;
            for (int k = 0; k < length; k++) {
                sum = (3 * sum + tape.byteAt(k)) % 251;
            }
            return tape.byteAt(length) == sum;
        }

        private boolean readRow(Text tape, int person, School school) {
            if (!isPlace(person)) {
                return false;
            }
            int at = IMAGE_HEAD + IMAGE_ROW * person;
            int flags = tape.byteAt(at + 4);
            masters[person] = tape.byteAt(at) - 1;
            right[person] = tape.byteAt(at + 1);
            wrong[person] = tape.byteAt(at + 2);
            left[person] = tape.byteAt(at + 3);
            passed |= hasBit(flags, 0) ? 1 << person : 0;
            doctors |= hasBit(flags, 1) ? 1 << person : 0;
            return masters[person] < school.people
                    && (right[person] | wrong[person]) < 1 << school.facts
                    && (right[person] & wrong[person]) == 0
                    && left[person] <= TRIES_MOST
                    && flags <= 3;
        }
    }

    /** How a year goes in the school. */
    private static final class Calendar {
        final School school;
        final int[] slots = new int[SLOTS];
        final int[] lessons = new int[PEOPLE_MOST];
        final int[] takenAs = new int[PEOPLE_MOST];

        Calendar(School school) {
            this.school = school;
        }

        /** One year of those who are not away: how many passed in it. */
        int runYear(State state, int away) {
            // All lessons are found before any is given: each is by what is ahead of the year.
            for (int k = 0; k < school.people && k < PEOPLE_MOST; k++) {
                lessons[k] = hasBit(away, k) ? NONE : lessonOf(state, k);
                takenAs[k] = lessons[k] == NONE ? NEITHER : beliefTaken(state, k, lessons[k]);
            }
            for (int k = 0; k < school.people && k < PEOPLE_MOST; k++) {
                if (lessons[k] != NONE) {
                    state.believe(k, lessons[k], takenAs[k]);
                }
            }
            int passed = examine(state, away);
            nameDoctors(state);
            state.year++;
            return passed;
        }

        /** Which fact a person is taught; NONE for none. */
        int lessonOf(State state, int pupil) {
            int master = state.masterOf(pupil);
            if (master == NONE) {
                return NONE;
            }
            int open = state.lessonsFor(pupil, master);
            boolean tested = open != 0 && school.tests.isTold(LAW_TAKES);
            if (tested) {
                fillLesson(state, pupil, master);
            }
            for (int k = 0; k < school.facts && k < FACTS_MOST && open != 0; k++) {
                slots[SLOT_WORTH] = school.worth[k];
                if (hasBit(open, k) && (!tested || school.tests.value(LAW_TAKES, slots) == 1)) {
                    return k;
                }
            }
            return NONE;
        }

        private int beliefTaken(State state, int pupil, int fact) {
            int master = state.masterOf(pupil);
            if (state.beliefOf(pupil, fact) == WRONGLY) {
                return RIGHTLY;
            }
            if (state.beliefOf(master, fact) == WRONGLY) {
                return WRONGLY;
            }
            if (!school.tests.isTold(LAW_GARBLE) || fact < 0 || fact >= FACTS_MOST) {
                return RIGHTLY;
            }
            fillLesson(state, pupil, master);
            slots[SLOT_WORTH] = school.worth[fact];
            return school.tests.value(LAW_GARBLE, slots) == 1 ? WRONGLY : RIGHTLY;
        }

        private void fillLesson(State state, int pupil, int master) {
            if (!State.isPlace(pupil) || !State.isPlace(master)) {
                return;
            }
            fillPerson(state, pupil);
            slots[SLOT_CLASS] = Integer.bitCount(state.pupilsOf(master));
            slots[SLOT_MCALM] = school.calm[master];
        }

        private void fillPerson(State state, int person) {
            if (!State.isPlace(person)) {
                return;
            }
            slots[SLOT_CALM] = school.calm[person];
            slots[SLOT_RIGHT] = Integer.bitCount(state.right[person]);
            slots[SLOT_WRONG] = Integer.bitCount(state.wrong[person]);
            slots[SLOT_YEAR] = state.year;
        }

        private int examine(State state, int away) {
            int count = 0;
            for (int k = 0; k < school.people && k < PEOPLE_MOST; k++) {
                if (hasBit(away, k) || hasBit(state.passed, k) || state.left[k] <= 0) {
                    continue;
                }
                int sum = school.marksIn(state, k);
                fillPerson(state, k);
                slots[SLOT_LEFT] = state.left[k];
                slots[SLOT_MARKS] = sum;
                if (school.tests.isTold(LAW_SITS) && school.tests.value(LAW_SITS, slots) == 0) {
                    continue;
                }
                if (sum >= school.enough) {
                    state.passed |= 1 << k;
                    state.keep(k, HAS_PASSED);
                    count++;
                } else {
                    state.left[k]--;
                }
            }
            return count;
        }

        private void nameDoctors(State state) {
            int named = 0;
            for (int k = 0; k < school.people; k++) {
                int above = hasBit(state.passed, k) ? state.masterOf(state.masterOf(k)) : NONE;
                named |= State.isPlace(above) ? 1 << above : 0;
            }
            for (int k = 0; k < school.people; k++) {
                if (hasBit(named, k) && !hasBit(state.doctors, k)) {
                    state.doctors |= 1 << k;
                    state.keep(k, IS_DOCTOR);
                }
            }
        }
    }

    /** Years ahead, tried out on a copy of what is so now. */
    private static final class Foresight {
        final School school;
        final State now;
        final Calendar calendar;
        final State trial = new State();
        int foundFirst = NONE;
        int foundSecond = NONE;

        Foresight(School school, State now, Calendar calendar) {
            this.school = school;
            this.now = now;
            this.calendar = calendar;
        }

        boolean reaches(int n, int most) {
            return n >= 0 && n <= most && now.year + n <= YEAR_MOST;
        }

        private int horizon() {
            return Math.min(AHEAD_MOST, YEAR_MOST - now.year);
        }

        State after(int n) {
            trial.copyFrom(now);
            for (int k = 0; k < n; k++) {
                calendar.runYear(trial, 0);
            }
            return trial;
        }

        int yearsToDoctor(int person) {
            trial.copyFrom(now);
            return runToDoctor(person, horizon());
        }

        /** Runs the trial on until the person is a doctor: behind how many years; NONE if not. */
        private int runToDoctor(int person, int most) {
            for (int n = 0; n <= most; n++) {
                if (hasBit(trial.doctors, person)) {
                    return n;
                }
                if (n < most) {
                    calendar.runYear(trial, 0);
                }
            }
            return NONE;
        }

        int yearsToLoss(int fact) {
            int most = horizon();
            int all = (1 << school.people) - 1;
            trial.copyFrom(now);
            for (int n = 0; n <= most && all != 0; n++) {
                if (whoHas(trial.wrong, fact) == all) {
                    return n;
                }
                if (n < most) {
                    calendar.runYear(trial, 0);
                }
            }
            return NONE;
        }

        void findMaster(int person) {
            foundFirst = NONE;
            foundSecond = NONE;
            int most = horizon();
            for (int k = 0; k < school.people && most >= 0; k++) {
                if (k == person || now.isAbove(person, k)) {
                    continue;
                }
                int n = yearsToPass(person, k, most);
                if (n != NONE) {
                    foundFirst = k;
                    foundSecond = n;
                    // A later one is better only if it is sooner.
                    most = n - 1;
                }
            }
        }

        private int yearsToPass(int person, int master, int most) {
            trial.copyFrom(now);
            trial.setMaster(person, master);
            for (int n = 0; n <= most; n++) {
                if (hasBit(trial.passed, person)) {
                    return n;
                }
                if (n < most) {
                    calendar.runYear(trial, 0);
                }
            }
            return NONE;
        }

        void findGift(int person, int n) {
            foundFirst = NONE;
            foundSecond = NONE;
            trial.copyFrom(now);
            if (runToDoctor(person, n) != NONE) {
                return;
            }
            int least = WORTH_MOST + 1;
            for (int to = 0; to < school.people; to++) {
                for (int k = 0; k < school.facts && k < FACTS_MOST; k++) {
                    if (school.worth[k] >= least || now.beliefOf(to, k) == RIGHTLY) {
                        continue;
                    }
                    trial.copyFrom(now);
                    trial.believe(to, k, RIGHTLY);
                    if (runToDoctor(person, n) != NONE) {
                        foundFirst = to;
                        foundSecond = k;
                        least = school.worth[k];
                    }
                }
            }
        }

        void findTries(int n) {
            foundFirst = NONE;
            foundSecond = NONE;
            for (int tries = 0; tries <= TRIES_MOST; tries++) {
                int count = doctorsWith(tries, n);
                if (count > foundSecond) {
                    foundFirst = tries;
                    foundSecond = count;
                }
            }
        }

        private int doctorsWith(int tries, int n) {
            trial.copyFrom(now);
            for (int k = 0; k < school.people && k < PEOPLE_MOST; k++) {
                if (!hasBit(trial.passed, k)) {
                    trial.left[k] = tries;
                }
            }
            for (int k = 0; k < n; k++) {
                calendar.runYear(trial, 0);
            }
            return Integer.bitCount(trial.doctors);
        }
    }

    /** What is heard of a fact, and who can have had it wrongly first. */
    private static final class Rumour {
        final School school;
        final State now;
        final Calendar calendar;
        final State trial = new State();
        final int[] people = new int[HEARD_MOST];
        final int[] beliefs = new int[HEARD_MOST];
        int rows = 0;
        // For each belief who holds it then, by source: beliefs * PEOPLE_MOST + source.
        final int[] holders = new int[3 * PEOPLE_MOST];
        int probed = NONE;
        int leftAtMost = NONE;

        Rumour(School school, State now, Calendar calendar) {
            this.school = school;
            this.now = now;
            this.calendar = calendar;
        }

        boolean take(Text tape) {
            int count = tape.length / 2;
            if (tape.length % 2 != 0 || count < 1 || count > HEARD_MOST) {
                return false;
            }
            for (int k = 0; k < count; k++) {
                if (tape.byteAt(2 * k) >= school.people || tape.byteAt(2 * k + 1) > WRONGLY) {
                    return false;
                }
            }
            for (int k = 0; k < count; k++) {
                people[k] = tape.byteAt(2 * k);
                beliefs[k] = tape.byteAt(2 * k + 1);
            }
            rows = count;
            return true;
        }

        int findSources(int fact, int n) {
            int known = whoHas(now.right, fact) | whoHas(now.wrong, fact);
            int found = 0;
            for (int k = 0; k < school.people && k < PEOPLE_MOST; k++) {
                if (hasBit(known, k)) {
                    supposeSource(k, known, fact, n);
                    found |= agrees(fact) ? 1 << k : 0;
                    noteHolders(k, fact);
                }
            }
            return found;
        }

        private void supposeSource(int source, int known, int fact, int n) {
            trial.copyFrom(now);
            for (int k = 0; k < school.people; k++) {
                if (hasBit(known, k)) {
                    trial.believe(k, fact, k == source ? WRONGLY : RIGHTLY);
                }
            }
            for (int k = 0; k < n; k++) {
                calendar.runYear(trial, 0);
            }
        }

        private boolean agrees(int fact) {
            for (int k = 0; k < rows && k < HEARD_MOST; k++) {
                if (trial.beliefOf(people[k], fact) != beliefs[k]) {
                    return false;
                }
            }
            return true;
        }

        private void noteHolders(int source, int fact) {
            if (!State.isPlace(source)) {
                return;
            }
            int rightly = whoHas(trial.right, fact);
            int wrongly = whoHas(trial.wrong, fact);
            holders[NEITHER * PEOPLE_MOST + source] = ~(rightly | wrongly);
            holders[RIGHTLY * PEOPLE_MOST + source] = rightly;
            holders[WRONGLY * PEOPLE_MOST + source] = wrongly;
        }

        /** The probe among sources that have just been found. */
        void findProbe(int found) {
            probed = NONE;
            leftAtMost = NONE;
            for (int k = 0; k < school.people && found != 0; k++) {
                int most = mostLeft(k, found);
                if (probed == NONE || most < leftAtMost) {
                    probed = k;
                    leftAtMost = most;
                }
            }
        }

        private int mostLeft(int person, int found) {
            int most = 0;
            for (int belief = NEITHER; belief <= WRONGLY; belief++) {
                int count = 0;
                for (int k = 0; k < PEOPLE_MOST; k++) {
                    if (hasBit(found, k) && hasBit(holders[belief * PEOPLE_MOST + k], person)) {
                        count++;
                    }
                }
                most = Math.max(most, count);
            }
            return most;
        }
    }
}
