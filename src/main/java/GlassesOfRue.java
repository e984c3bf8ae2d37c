import java.util.Arrays;

/** Egg timers that run on what will be rued: the class of ../shared/DOC.md. */
public final class GlassesOfRue {
    public static final int NONE = -1, BAD = -2, STATE = -3, FULL = -4;
    public static final long NO = -4611686018427387904L;

    private static final int NOTHING = -11, OUTSIDE = -12, OTHER_SORT = -13, SIZE_BELOW_0 = -14;

    private static final int DAY_MOST = 999, DIGIT_MOST = 9, RUE_MOST = 999, HAD_MOST = 999;
    private static final int PEOPLE_MOST = 5, TEXTS_MOST = 6, TAPE_MOST = 160, FAULT_AHEAD = -100;
    private static final int TOLD_MOST = 99, RUNS_MOST = 9, RUES_MOST = 99, CLERK_RUES_MOST = 5;
    private static final int RUN_DAYS_MOST = 40, DRAW_MOST = 40, MAKE_DAYS_MOST = 10, BEST_PEOPLE_MOST = 4;
    private static final int SHEETS = 4, SHEET_MOST = 40, TELLS_MOST = 30, MINUTE_MOST = 30;
    private static final int TOLD_RUES = 100, SEEDS_MOST = 20, CHANCE_DAYS = 10, CHANCE_MOST = 99;

    private static final int PERSON = 0, SCAMP = 1, SAINT = 2, BANKER = 3, NUN = 4, CLERK = 5, KINDS = 6;
    private static final int RUNS_PART = 0, CLOGS_PART = 1, RUES_PART = 2, PARTS = 3, NAMES = 6;
    private static final int MISSING = -1, BYTES = 0, SHORTS = 1, INTS = 2;

    private static final String FIRST_RULE = "runs 1 + rue ; clogs 0 ; rues 1 ;";

    private final Text[] texts = new Text[TEXTS_MOST];
    private final Tape tape = new Tape();
    private final Table table = new Table();
    private final World now = new World(texts);
    /** Scratch: every call that asks "what would be" starts it anew from now. */
    private final World thought = new World(texts);
    private final World kept = new World(texts);
    private final Sheet[] sheets = new Sheet[SHEETS];
    private int textCount;
    private boolean imageKept;

    public GlassesOfRue() {
        for (int i = 0; i < TEXTS_MOST; i++) {
            texts[i] = new Text();
        }
        for (int i = 0; i < SHEETS; i++) {
            sheets[i] = new Sheet();
        }
        for (int i = 0; i < FIRST_RULE.length(); i++) {
            tape.add(FIRST_RULE.charAt(i));
        }
        text();
    }

    // ---- people

    public int set(int what, int of, int v) {
        int was = held(what, of);
        if (was == BAD || !within(v, 0, heldMost(what))) {
            return BAD;
        }
        switch (what) {
            case 0: now.day = v; break;
            case 1: now.wet = v; break;
            case 2: now.number[of] = v; break;
            case 3: now.rue[of] = v; break;
            default: now.had[of] = v; break;
        }
        return was;
    }

    public int person(int kind, int number, int rue) {
        if (!World.canBe(kind, number, rue)) {
            return BAD;
        }
        return now.come(kind, number, rue);
    }

    public int told(int of, int what) {
        if (what <= 4) {
            return held(what, of);
        }
        if (!now.has(of)) {
            return BAD;
        }
        switch (what) {
            case 5: return now.kind[of];
            case 6: return now.runsOf(of);
            case 7: return now.clogsOf(of) ? 1 : 0;
            case 8: return now.ruesOf(of);
            case 9: return now.minutesOf(of);
            default: return BAD;
        }
    }

    /** What set() may change, or BAD. */
    private int held(int what, int of) {
        switch (what) {
            case 0: return now.day;
            case 1: return now.wet;
            case 2: return now.has(of) ? now.number[of] : BAD;
            case 3: return now.has(of) ? now.rue[of] : BAD;
            case 4: return now.has(of) ? now.had[of] : BAD;
            default: return BAD;
        }
    }

    private static int heldMost(int what) {
        switch (what) {
            case 0: return DAY_MOST;
            case 3: return RUE_MOST;
            case 4: return HAD_MOST;
            default: return DIGIT_MOST;
        }
    }

    // ---- texts

    public int feed(int letter) {
        if (!within(letter, 0, 255)) {
            return BAD;
        }
        return tape.add(letter);
    }

    public int text() {
        if (textCount >= TEXTS_MOST) {
            return FULL;
        }
        int fault = tape.read();
        tape.size = 0;
        if (fault != NONE) {
            return FAULT_AHEAD - fault;
        }
        texts[textCount].become(tape);
        textCount++;
        return textCount - 1;
    }

    public int force(int text) {
        if (!within(text, 0, textCount - 1)) {
            return BAD;
        }
        int was = now.rule;
        now.rule = text;
        return was;
    }

    // ---- days

    public int day() {
        if (now.day >= DAY_MOST) {
            return STATE;
        }
        now.passDay();
        return now.rueOfAll();
    }

    public int draw(int one, int other, int v) {
        if (!now.has(one) || !now.has(other) || one == other || !within(v, 0, RUE_MOST)) {
            return BAD;
        }
        if (now.rue[one] < v) {
            return STATE;
        }
        now.drawOff(one, other, v);
        return now.rue[one];
    }

    public int run(int one, int n, int what) {
        if (!now.has(one) || !within(n, 0, RUN_DAYS_MOST) || !within(what, 0, 2)) {
            return BAD;
        }
        thought.become(now);
        thought.passDays(n);
        switch (what) {
            case 0: return thought.rue[one];
            case 1: return thought.minutesOf(one);
            default: return thought.rueOfAll();
        }
    }

    public int all(int what) {
        switch (what) {
            case 0: return now.longest();
            case 1: return now.longest() == NONE ? 0 : now.minutesOf(now.longest());
            case 2: return now.whoClog();
            case 3: return now.mostRue();
            default: return BAD;
        }
    }

    // ---- on the table

    public long times(int three) {
        if (!isThree(three)) {
            return NO;
        }
        return timesOf(now, three);
    }

    public int fewest(int three, int minute, int what) {
        if (!isThree(three) || !isMinute(minute) || !within(what, 0, 2)) {
            return BAD;
        }
        if (what == 2) {
            return nextTold(timesOf(now, three), minute);
        }
        layGlasses(three);
        return what == 0 ? table.turnsTill(minute) : table.wayTill(minute);
    }

    public int best(int minute, int what) {
        if (!isMinute(minute) || !within(what, 0, 1)) {
            return BAD;
        }
        if (now.size > BEST_PEOPLE_MOST) {
            return STATE;
        }
        int bestThree = NONE;
        int bestTurns = NONE;
        for (int one = 0; one < now.size; one++) {
            for (int other = one + 1; other < now.size; other++) {
                for (int third = other + 1; third < now.size; third++) {
                    int three = one * 100 + other * 10 + third;
                    layGlasses(three);
                    int turns = table.turnsTill(minute);
                    if (turns != NONE && (bestTurns == NONE || turns < bestTurns)) {
                        bestThree = three;
                        bestTurns = turns;
                    }
                }
            }
        }
        return what == 0 ? bestThree : bestTurns;
    }

    public int makes(int three, int minute, int what) {
        if (!isThree(three) || !isMinute(minute) || !within(what, 0, 1)) {
            return BAD;
        }
        int first = three / 100;
        int second = three / 10 % 10;
        int most = what == 0 ? Math.min(now.rue[first], DRAW_MOST) : MAKE_DAYS_MOST;
        for (int v = 0; v <= most; v++) {
            thought.become(now);
            if (what == 0) {
                thought.drawOff(first, second, v);
            } else {
                thought.passDays(v);
            }
            if ((timesOf(thought, three) >> minute & 1) == 1) {
                return v;
            }
        }
        return NONE;
    }

    private static int nextTold(int times, int minute) {
        for (int m = minute; m <= MINUTE_MOST; m++) {
            if ((times >> m & 1) == 1) {
                return m;
            }
        }
        return NONE;
    }

    private boolean isThree(int three) {
        if (!within(three, 0, 999)) {
            return false;
        }
        int one = three / 100;
        int other = three / 10 % 10;
        int third = three % 10;
        return now.has(one) && now.has(other) && now.has(third)
            && one != other && one != third && other != third;
    }

    private int timesOf(World world, int three) {
        return table.timesOf(world.minutesOf(three / 100),
            world.minutesOf(three / 10 % 10), world.minutesOf(three % 10));
    }

    private void layGlasses(int three) {
        table.lay(now.minutesOf(three / 100), now.minutesOf(three / 10 % 10), now.minutesOf(three % 10));
    }

    private static boolean isMinute(int minute) {
        return within(minute, 1, MINUTE_MOST);
    }

    // ---- glasses that were told

    public int tells(int sheet, int one, int what) {
        if (!within(sheet, 0, SHEETS - 1) || !now.has(one) || !within(what, 0, 7)) {
            return BAD;
        }
        Sheet row = sheets[sheet];
        if (row.sort == MISSING) {
            return NOTHING;
        }
        if (row.size > TELLS_MOST) {
            return BAD;
        }
        if (what == 0) {
            return firstOtherwise(row, one, what, 0);
        }
        int bits = 0;
        int many = 0;
        int least = NONE;
        for (int v = choices(what) - 1; v >= 0; v--) {
            if (firstOtherwise(row, one, what, v) == NONE) {
                bits |= 1 << v;
                many++;
                least = v;
            }
        }
        switch (what) {
            case 4: return many;
            case 5: return least;
            default: return bits;
        }
    }

    public int film(int sheet, int one, int n) {
        if (!within(sheet, 0, SHEETS - 1) || !now.has(one) || !within(n, 0, TELLS_MOST)) {
            return BAD;
        }
        Sheet row = sheets[sheet];
        row.become(BYTES, n);
        thought.become(now);
        for (int i = 0; i < n; i++) {
            row.put(i, thought.minutesOf(one));
            thought.passDay();
        }
        return n;
    }

    public int drawn(int seed, int n) {
        if (!within(n, 0, RUN_DAYS_MOST)) {
            return BAD;
        }
        return clogsBySeed(seed, n);
    }

    public long chance(int seed, int m, int k, int part) {
        if (!within(m, 1, SEEDS_MOST) || !within(k, 0, CHANCE_MOST) || !within(part, 0, 1)) {
            return NO;
        }
        int above = 0;
        for (int i = 0; i < m; i++) {
            if (clogsBySeed(seed + i, CHANCE_DAYS) >= k) {
                above++;
            }
        }
        int shared = greatestShared(above, m);
        if (shared <= 0) {
            return NO;
        }
        return part == 0 ? above / shared : m / shared;
    }

    public int image() {
        kept.become(now);
        imageKept = true;
        return now.size;
    }

    public int back() {
        if (!imageKept) {
            return STATE;
        }
        now.become(kept);
        return now.size;
    }

    public int count(int what) {
        switch (what) {
            case 0: return now.size;
            case 1: return now.day;
            case 2: return now.rueOfAll();
            case 3: return textCount;
            case 4: return tape.size;
            case 5: return now.rule;
            default: return BAD;
        }
    }

    /** How many values of what (as of tells()) are tried. */
    private int choices(int what) {
        switch (what) {
            case 1: return KINDS;
            case 2:
            case 3: return DIGIT_MOST + 1;
            case 4:
            case 5: return TOLD_RUES;
            case 6: return textCount;
            default: return now.size;
        }
    }

    /** The first number of the row that isn't so, were that which what (as of tells(); 0: nothing) names v. */
    private int firstOtherwise(Sheet row, int one, int what, int v) {
        int who = what == 7 ? v : one;
        thought.become(now);
        switch (what) {
            case 1: thought.kind[one] = v; break;
            case 2: thought.number[one] = v; break;
            case 3: thought.wet = v; break;
            case 4:
            case 5: thought.rue[one] = v; break;
            case 6: thought.rule = v; break;
            default: break;
        }
        for (int i = 0; i < row.size; i++) {
            if (thought.minutesOf(who) != row.at(i)) {
                return i;
            }
            thought.passDay();
        }
        return NONE;
    }

    private int clogsBySeed(int seed, int n) {
        int z = seed;
        int clogs = 0;
        thought.become(now);
        for (int i = 0; i < n; i++) {
            z = z * 1103515245 + 12345;
            thought.wet = (z >>> 9) % 10;
            thought.passDay();
            clogs += Integer.bitCount(thought.whoClog());
        }
        return clogs;
    }

    private static int greatestShared(int a, int b) {
        int shared = 1;
        for (int d = 2; d <= b; d++) {
            if (a % d == 0 && b % d == 0) {
                shared = d;
            }
        }
        return shared;
    }

    // ---- the host

    public int sheet(int sheet, int sort, int n) {
        if (!within(sheet, 0, SHEETS - 1) || !within(sort, MISSING, INTS)) {
            return BAD;
        }
        if (sort == MISSING) {
            sheets[sheet].become(MISSING, 0);
            return 1;
        }
        if (n > SHEET_MOST) {
            return BAD;
        }
        if (n < 0) {
            return SIZE_BELOW_0;
        }
        sheets[sheet].become(sort, n);
        return 1;
    }

    public int cell(int sheet, int i, int v) {
        if (!within(sheet, 0, SHEETS - 1)) {
            return BAD;
        }
        Sheet row = sheets[sheet];
        if (row.sort == MISSING) {
            return NOTHING;
        }
        if (!within(i, 0, row.size - 1)) {
            return OUTSIDE;
        }
        row.put(i, v);
        return 1;
    }

    public int copy(int sheet, int i, int other, int j, int n) {
        if (!within(sheet, 0, SHEETS - 1) || !within(other, 0, SHEETS - 1)) {
            return BAD;
        }
        Sheet from = sheets[sheet];
        Sheet to = sheets[other];
        if (from.sort == MISSING || to.sort == MISSING) {
            return NOTHING;
        }
        if (from.sort != to.sort) {
            return OTHER_SORT;
        }
        if (!from.holds(i, n) || !to.holds(j, n)) {
            return OUTSIDE;
        }
        System.arraycopy(from.cells, i, to.cells, j, n);
        return n;
    }

    public int people(int sheet, int sort, int from, int n) {
        if (!within(sheet, 0, SHEETS - 1) || !within(sort, BYTES, INTS) || !within(n, 0, PEOPLE_MOST)) {
            return BAD;
        }
        Sheet row = sheets[sheet];
        if (row.sort == MISSING) {
            return NOTHING;
        }
        if (row.sort != sort) {
            return OTHER_SORT;
        }
        int came = 0;
        for (int i = 0; i < n; i++) {
            int at = from + 3 * i;
            if (!row.holds(at, 3)) {
                return OUTSIDE;
            }
            if (person(row.at(at), row.at(at + 1), row.at(at + 2)) >= 0) {
                came++;
            }
        }
        return came;
    }

    public int taken(int one, int k) {
        if (!within(k, 0, KINDS - 1)) {
            return BAD;
        }
        if (!now.has(one)) {
            return NOTHING;
        }
        return isUnder(now.kind[one], k) ? now.number[one] : OTHER_SORT;
    }

    private static boolean isUnder(int kind, int k) {
        int at = kind;
        for (int i = 0; i < KINDS && at != k && at != PERSON; i++) {
            at = kindAbove(at);
        }
        return at == k;
    }

    private static int kindAbove(int kind) {
        switch (kind) {
            case BANKER: return SCAMP;
            case NUN: return SAINT;
            default: return PERSON;
        }
    }

    // ---- shared by all

    private static boolean within(int v, int least, int most) {
        return v >= least && v <= most;
    }

    private static int bounded(int v, int least, int most) {
        return Math.max(least, Math.min(most, v));
    }

    /** All that an image keeps; also what is only thought of, so that thinking never touches what is. */
    private static final class World {
        private final Text[] texts;
        private final int[] kind = new int[PEOPLE_MOST];
        private final int[] number = new int[PEOPLE_MOST];
        private final int[] rue = new int[PEOPLE_MOST];
        private final int[] had = new int[PEOPLE_MOST];
        private final int[] more = new int[PEOPLE_MOST];
        /** What the names of a text stand for, in the order of the tape's words. */
        private final int[] names = new int[NAMES];
        private int size;
        private int day;
        private int wet;
        private int rule;

        World(Text[] texts) {
            this.texts = texts;
        }

        void become(World other) {
            size = other.size;
            day = other.day;
            wet = other.wet;
            rule = other.rule;
            for (int i = 0; i < PEOPLE_MOST; i++) {
                kind[i] = other.kind[i];
                number[i] = other.number[i];
                rue[i] = other.rue[i];
                had[i] = other.had[i];
            }
        }

        static boolean canBe(int kind, int number, int rue) {
            return within(kind, 0, KINDS - 1) && within(number, 0, DIGIT_MOST) && within(rue, 0, RUE_MOST);
        }

        int come(int newKind, int newNumber, int newRue) {
            if (size >= PEOPLE_MOST) {
                return FULL;
            }
            kind[size] = newKind;
            number[size] = newNumber;
            rue[size] = newRue;
            had[size] = 0;
            size++;
            return size - 1;
        }

        boolean has(int one) {
            return one >= 0 && one < size;
        }

        int runsOf(int one) {
            int v = bounded(ruleTells(RUNS_PART, one), 0, TOLD_MOST);
            int runs;
            switch (kind[one]) {
                case SCAMP: runs = v + 1; break;
                case SAINT: runs = v / 2; break;
                case BANKER: runs = v + 1 - had[one] / 10; break;
                case NUN: runs = day % 7 == number[one] ? RUNS_MOST : v / 2; break;
                case CLERK: runs = number[one]; break;
                default: runs = v; break;
            }
            return bounded(runs, 0, RUNS_MOST);
        }

        boolean clogsOf(int one) {
            boolean yes = ruleTells(CLOGS_PART, one) != 0;
            switch (kind[one]) {
                case SCAMP: return yes && wet > 3;
                case BANKER: return yes && wet > 3 || had[one] > 50;
                case SAINT:
                case NUN: return false;
                default: return yes;
            }
        }

        int ruesOf(int one) {
            int v = bounded(ruleTells(RUES_PART, one), 0, TOLD_MOST);
            int rues;
            switch (kind[one]) {
                case SCAMP: rues = 2 * v; break;
                case SAINT: rues = 0; break;
                case BANKER: rues = 2 * v + number[one]; break;
                case NUN: rues = 1; break;
                case CLERK: rues = Math.min(v, CLERK_RUES_MOST); break;
                default: rues = v; break;
            }
            return bounded(rues, 0, RUES_MOST);
        }

        int minutesOf(int one) {
            return clogsOf(one) ? 0 : runsOf(one);
        }

        /** All are told before any RUE changes: a text may look at the most that any has. */
        void passDay() {
            for (int i = 0; i < size; i++) {
                more[i] = ruesOf(i);
            }
            for (int i = 0; i < size; i++) {
                rue[i] = Math.min(RUE_MOST, rue[i] + more[i]);
            }
            day++;
        }

        void passDays(int n) {
            for (int i = 0; i < n; i++) {
                passDay();
            }
        }

        void drawOff(int one, int other, int v) {
            rue[one] -= v;
            rue[other] = Math.min(RUE_MOST, rue[other] + v);
            had[other] = Math.min(HAD_MOST, had[other] + v);
        }

        int rueOfAll() {
            int sum = 0;
            for (int i = 0; i < size; i++) {
                sum += rue[i];
            }
            return sum;
        }

        int mostRue() {
            int most = 0;
            for (int i = 0; i < size; i++) {
                most = Math.max(most, rue[i]);
            }
            return most;
        }

        int longest() {
            int who = NONE;
            int most = NONE;
            for (int i = 0; i < size; i++) {
                int minutes = minutesOf(i);
                if (minutes > most) {
                    who = i;
                    most = minutes;
                }
            }
            return who;
        }

        int whoClog() {
            int bits = 0;
            for (int i = 0; i < size; i++) {
                if (clogsOf(i)) {
                    bits |= 1 << i;
                }
            }
            return bits;
        }

        private int ruleTells(int part, int one) {
            if (rule < 0 || rule >= texts.length || texts[rule] == null) {
                return 0;
            }
            names[0] = rue[one];
            names[1] = number[one];
            names[2] = wet;
            names[3] = day;
            names[4] = had[one];
            names[5] = mostRue();
            return texts[rule].tell(part, names);
        }
    }

    /** A TEXT that was read: its three parts one behind the other, what is joined ahead of what joins it. */
    private static final class Text {
        /** Below NAMED a number; from there a name; from JOINED what joins two (a token); then what changes one. */
        private static final int NAMED = 10000, JOINED = 20000, NEGATED = 30000, DENIED = 30001;

        private final int[] code = new int[TAPE_MOST];
        private final int[] ends = new int[PARTS];
        private final int[] stack = new int[TAPE_MOST];

        void become(Tape tape) {
            for (int i = 0; i < TAPE_MOST; i++) {
                code[i] = tape.code[i];
            }
            for (int i = 0; i < PARTS; i++) {
                ends[i] = tape.ends[i];
            }
        }

        int tell(int part, int[] names) {
            int top = 0;
            for (int i = part == 0 ? 0 : ends[part - 1]; i < ends[part]; i++) {
                int c = code[i];
                if (c < JOINED) {
                    int name = c - NAMED;
                    if (top < TAPE_MOST && name < NAMES) {
                        stack[top] = name < 0 ? c : names[name];
                        top++;
                    }
                } else if (c >= NEGATED) {
                    if (top > 0) {
                        stack[top - 1] = changed(c, stack[top - 1]);
                    }
                } else if (top > 1) {
                    top--;
                    stack[top - 1] = joined(c - JOINED, stack[top - 1], stack[top]);
                }
            }
            return top > 0 ? stack[0] : 0;
        }

        private static int changed(int c, int a) {
            if (c == NEGATED) {
                return -a;
            }
            return a == 0 ? 1 : 0;
        }

        private static int joined(int token, int a, int b) {
            switch (token) {
                case Tape.OR: return a != 0 || b != 0 ? 1 : 0;
                case Tape.AND: return a != 0 && b != 0 ? 1 : 0;
                case '<': return a < b ? 1 : 0;
                case '=': return a == b ? 1 : 0;
                case '+': return a + b;
                case '-': return a - b;
                default: return a * b;
            }
        }
    }

    /** THE TAPE and its reader. What reads a part answers false at a FAULT, and stays at the token that is it. */
    private static final class Tape {
        /** Tokens; a sign is its own byte. The three parts' keys are tokens from PART_KEY on. */
        private static final int END = 0, WRONG = 1, NUMBER = 2, NAME = 3, PART_KEY = 4, OR = 7, AND = 8, NOT = 9;
        /** The names, then the keys in the order of their tokens, a blank behind each. */
        private static final String WORDS = "rue number wet day had most runs clogs rues or and not ";
        private static final String SIGNS = "();+-*<=";
        private static final int DIGITS_MOST = 4, OPEN_MOST = 5;

        private final int[] bytes = new int[TAPE_MOST];
        private final int[] code = new int[TAPE_MOST];
        private final int[] ends = new int[PARTS];
        private int size;
        private int codeSize;
        private int place;
        private int token;
        private int tokenPlace;
        private int tokenValue;

        int add(int letter) {
            if (size >= TAPE_MOST) {
                return FULL;
            }
            bytes[size] = letter;
            size++;
            return size;
        }

        /** The place of the FAULT, or NONE: then code and ends are the text. */
        int read() {
            place = 0;
            codeSize = 0;
            next();
            for (int part = 0; part < PARTS; part++) {
                if (token != PART_KEY + part) {
                    return tokenPlace;
                }
                next();
                if (!readEither(0) || token != ';') {
                    return tokenPlace;
                }
                ends[part] = codeSize;
                next();
            }
            return token == END ? NONE : tokenPlace;
        }

        private boolean readEither(int open) {
            boolean fine = readBoth(open);
            for (int i = 0; i < TAPE_MOST && fine && token == OR; i++) {
                next();
                fine = readBoth(open);
                emit(Text.JOINED + OR);
            }
            return fine;
        }

        private boolean readBoth(int open) {
            boolean fine = readDenied(open);
            for (int i = 0; i < TAPE_MOST && fine && token == AND; i++) {
                next();
                fine = readDenied(open);
                emit(Text.JOINED + AND);
            }
            return fine;
        }

        private boolean readDenied(int open) {
            if (token == NOT) {
                if (open >= OPEN_MOST) {
                    return false;
                }
                next();
                boolean fine = readDenied(open + 1);
                emit(Text.DENIED);
                return fine;
            }
            boolean fine = readSum(open);
            if (fine && (token == '<' || token == '=')) {
                int sign = token;
                next();
                fine = readSum(open);
                emit(Text.JOINED + sign);
            }
            return fine;
        }

        private boolean readSum(int open) {
            boolean fine = readTerm(open);
            for (int i = 0; i < TAPE_MOST && fine && (token == '+' || token == '-'); i++) {
                int sign = token;
                next();
                fine = readTerm(open);
                emit(Text.JOINED + sign);
            }
            return fine;
        }

        private boolean readTerm(int open) {
            boolean fine = readOne(open);
            for (int i = 0; i < TAPE_MOST && fine && token == '*'; i++) {
                next();
                fine = readOne(open);
                emit(Text.JOINED + '*');
            }
            return fine;
        }

        private boolean readOne(int open) {
            if (token == NUMBER || token == NAME) {
                emit(token == NUMBER ? tokenValue : Text.NAMED + tokenValue);
                next();
                return true;
            }
            if (token != '-' && token != '(' || open >= OPEN_MOST) {
                return false;
            }
            if (token == '-') {
                next();
                boolean fine = readOne(open + 1);
                emit(Text.NEGATED);
                return fine;
            }
            next();
            if (!readEither(open + 1) || token != ')') {
                return false;
            }
            next();
            return true;
        }

        private void emit(int c) {
            if (codeSize < TAPE_MOST) {
                code[codeSize] = c;
                codeSize++;
            }
        }

        private void next() {
            while (place < size && (bytes[place] == ' ' || bytes[place] == '\n')) {
                place++;
            }
            tokenPlace = place;
            if (place >= size) {
                token = END;
            } else if (isDigit(place)) {
                nextNumber();
            } else if (isLetter(place)) {
                nextWord();
            } else {
                token = SIGNS.indexOf((char) bytes[place]) >= 0 ? bytes[place] : WRONG;
                place++;
            }
        }

        private void nextNumber() {
            tokenValue = 0;
            while (place < size && isDigit(place)) {
                if (place - tokenPlace < DIGITS_MOST) {
                    tokenValue = tokenValue * 10 + bytes[place] - '0';
                }
                place++;
            }
            token = place - tokenPlace > DIGITS_MOST ? WRONG : NUMBER;
        }

        private void nextWord() {
            while (place < size && isLetter(place)) {
                place++;
            }
            tokenValue = wordNumber(tokenPlace, place);
            if (tokenValue == NONE) {
                token = WRONG;
            } else {
                token = tokenValue < NAMES ? NAME : PART_KEY + tokenValue - NAMES;
            }
        }

        /** Which of WORDS stands on the tape there, or NONE. */
        private int wordNumber(int from, int to) {
            int number = 0;
            int at = from;
            boolean same = true;
            for (int i = 0; i < WORDS.length(); i++) {
                char c = WORDS.charAt(i);
                if (c != ' ') {
                    same = same && at < to && bytes[at] == c;
                    at++;
                } else if (same && at == to) {
                    return number;
                } else {
                    number++;
                    at = from;
                    same = true;
                }
            }
            return NONE;
        }

        private boolean isDigit(int i) {
            return bytes[i] >= '0' && bytes[i] <= '9';
        }

        private boolean isLetter(int i) {
            return bytes[i] >= 'a' && bytes[i] <= 'z';
        }
    }

    /**
     * Three glasses on the table. What stands at a minute is the sand above in each, as three digits.
     * A WAY to it is one number, the better the less: TURNS, then the first nine sets as digits from
     * the left, then how many sets. Two ways to one minute are never one the beginning of the other,
     * so digits from the left compare as the document asks; where nine are alike both have more.
     */
    private static final class Table {
        private static final long NEVER = 9223372036854775807L, TURN = 100000000000L;
        private static final int STANDS = 1000, SETS = 8, DIGITS = 9;
        /** A glass runs 9 minutes at most, so what comes next lies within these rows of minutes. */
        private static final int ROWS = 10;
        private static final long[] PLACES = {
            10000000000L, 1000000000L, 100000000L, 10000000L, 1000000L, 100000L, 10000L, 1000L, 100L
        };

        private final long[] ways = new long[ROWS * STANDS];
        private final long[] bestWays = new long[MINUTE_MOST + 1];
        /** TIMES by the three sizes; 0 where they aren't known yet (bit 0 is set in those that are). */
        private final int[] known = new int[STANDS];
        private int first;
        private int second;
        private int third;
        private int laid = NONE;

        /** TIMES by three glasses of so many minutes. */
        int timesOf(int a, int b, int c) {
            int sizes = a * 100 + b * 10 + c;
            if (sizes < 0 || sizes >= STANDS) {
                return 0;
            }
            if (known[sizes] == 0) {
                lay(a, b, c);
                known[sizes] = 1 | timesLaid();
            }
            return known[sizes] & ~1;
        }

        private int timesLaid() {
            int bits = 0;
            for (int minute = 1; minute <= MINUTE_MOST; minute++) {
                if (bestWays[minute] != NEVER) {
                    bits |= 1 << minute;
                }
            }
            return bits;
        }

        void lay(int a, int b, int c) {
            int sizes = a * 100 + b * 10 + c;
            if (sizes == laid) {
                return;
            }
            laid = sizes;
            first = a;
            second = b;
            third = c;
            Arrays.fill(ways, NEVER);
            ways[0] = 0;
            for (int minute = 0; minute <= MINUTE_MOST; minute++) {
                bestWays[minute] = passMinute(minute);
            }
        }

        int turnsTill(int minute) {
            long way = bestWays[minute];
            return way == NEVER ? NONE : (int) (way / TURN);
        }

        int wayTill(int minute) {
            long way = bestWays[minute];
            int sets = (int) (way % 100);
            if (way == NEVER || sets < 1 || sets > DIGITS) {
                return NONE;
            }
            long place = PLACES[sets - 1];
            return place <= 0 ? NONE : (int) (way % TURN / place);
        }

        /** Goes on from all that can stand at that minute; the best way to any of it. */
        private long passMinute(int minute) {
            int row = minute % ROWS * STANDS;
            long best = NEVER;
            for (int stand = 0; stand < STANDS; stand++) {
                long way = ways[row + stand];
                if (way != NEVER) {
                    ways[row + stand] = NEVER;
                    best = Math.min(best, way);
                    turnSets(minute, stand, way);
                }
            }
            return best;
        }

        private void turnSets(int minute, int stand, long way) {
            for (int set = 0; set < SETS; set++) {
                int a = turned(stand / 100, first, set & 1);
                int b = turned(stand / 10 % 10, second, set & 2);
                int c = turned(stand % 10, third, set & 4);
                int step = sooner(a, sooner(b, c));
                int then = minute + step;
                if (step > 0 && then <= MINUTE_MOST) {
                    int next = Math.max(0, a - step) * 100 + Math.max(0, b - step) * 10 + Math.max(0, c - step);
                    int at = then % ROWS * STANDS + next;
                    ways[at] = Math.min(ways[at], withSet(way, set));
                }
            }
        }

        private static int turned(int above, int size, int bit) {
            return bit == 0 ? above : size - above;
        }

        /** The lesser of two, but 0 runs no more. */
        private static int sooner(int a, int b) {
            if (a == 0) {
                return b;
            }
            return b == 0 ? a : Math.min(a, b);
        }

        private static long withSet(long way, int set) {
            int sets = (int) (way % 100);
            long longer = way + Integer.bitCount(set) * TURN + 1;
            return sets >= 0 && sets < DIGITS ? longer + (set + 1) * PLACES[sets] : longer;
        }
    }

    /** A SHEET: cells beyond its size are nobody's; of sort MISSING it is none. */
    private static final class Sheet {
        private final int[] cells = new int[SHEET_MOST];
        private int sort = MISSING;
        private int size;

        void become(int newSort, int newSize) {
            sort = newSort;
            size = newSize;
            Arrays.fill(cells, 0);
        }

        void put(int i, int v) {
            if (i >= 0 && i < size) {
                cells[i] = sort == BYTES ? (byte) v : sort == SHORTS ? (short) v : v;
            }
        }

        int at(int i) {
            return i >= 0 && i < size ? cells[i] : 0;
        }

        boolean holds(int i, int n) {
            return i >= 0 && n >= 0 && i <= size && n <= size - i;
        }
    }
}
