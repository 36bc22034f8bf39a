/**
 * A helper that asks what was meant: it mends small programs by the fewest
 * changes that make them read, fit, or do what their tests want.
 */
public final class MeantTexts {
    public static final int NONE = -1;

    private static final int NOTHING = -2000000;

    private static final int NO_NUMBER = -1;
    private static final int NO_SUCH = -2;
    private static final int NO_ROOM = -5;
    private static final int NOT_ANY = -6;

    private static final int UNREAD = -5;
    private static final int UNFIT = -6;

    private static final int OPEN = 0;
    private static final int CLOSE = 1;
    private static final int PLUS = 2;
    private static final int MINUS = 3;
    private static final int TIMES = 4;
    private static final int LESS = 5;
    private static final int ALIKE = 6;
    private static final int AND = 7;
    private static final int NOT = 8;
    private static final int IF = 9;
    private static final int THEN = 10;
    private static final int ELSE = 11;
    private static final int TRUE = 12;
    private static final int FIRST_VARIABLE = 14;
    private static final int FIRST_NUMBER = 18;
    private static final int TOKENS = 28;

    private static final int VARIABLES = 4;
    private static final int WHOLE = 0;
    private static final int TRUTH = 1;

    private static final int READS = 0;
    private static final int PASSES = 2;

    private static final int PROGRAM_ROOM = 10;
    private static final int MOST_CHANGES = 2;
    private static final int ROW_ROOM = 12;
    private static final int TEST_ROOM = 8;
    private static final int MENDING_ROOM = 300;
    private static final int FARTHEST_INPUT = 100;
    private static final int FARTHEST_VALUE = 1000000;
    private static final int APART_INPUTS = 625;

    private final Row program = new Row();
    private final Row scratch = new Row();
    private final int[] inputs = new int[VARIABLES];
    private final Sense sense = new Sense();
    private final Sense otherSense = new Sense();
    private final Judge judge = new Judge();
    private final Mendings latest = new Mendings();
    private final Search search = new Search();
    private int refusal = 0;

    public MeantTexts() {
    }

    public int put(int token) {
        if (!isToken(token)) {
            return refuse(NO_NUMBER);
        }
        if (program.size() >= PROGRAM_ROOM) {
            return refuse(NO_ROOM);
        }
        program.add(token);
        return accept(program.size());
    }

    public int set(int place, int token) {
        if (token != NONE && !isToken(token)) {
            return refuse(NO_NUMBER);
        }
        if (place < 0 || place >= program.size()) {
            return refuse(NO_SUCH);
        }
        if (token == NONE) {
            program.removeAt(place);
        } else {
            program.replace(place, token);
        }
        return accept(program.size());
    }

    public int clear() {
        int had = program.size();
        program.shorten(0);
        return had;
    }

    public int token(int i) {
        return i == NONE ? program.size() : program.at(i);
    }

    public int kind(int variable, int kind) {
        if (variable < 0 || variable >= VARIABLES || !isKind(kind)) {
            return refuse(NO_NUMBER);
        }
        int was = judge.kinds[variable];
        judge.kinds[variable] = kind;
        return accept(was);
    }

    public int fault() {
        return Reading.faultOf(program);
    }

    public int fits() {
        if (Reading.faultOf(program) != NONE) {
            return UNREAD;
        }
        int made = sense.understand(program, judge.kinds);
        return made == NONE ? UNFIT : made;
    }

    public int value(int a, int b, int c, int d) {
        if (!understood(program, sense)) {
            return NOTHING;
        }
        setInputs(a, b, c, d);
        return sense.work(inputs, 0);
    }

    public int test(int a, int b, int c, int d, int wanted) {
        if (!isInput(a) || !isInput(b) || !isInput(c) || !isInput(d) || isTooFar(wanted)) {
            return refuse(NO_NUMBER);
        }
        if (judge.tests.size() >= TEST_ROOM) {
            return refuse(NO_ROOM);
        }
        setInputs(a, b, c, d);
        judge.tests.add(inputs, wanted);
        return accept(judge.tests.size() - 1);
    }

    public int drop(int test) {
        if (test < 0 || test >= judge.tests.size()) {
            return refuse(NO_SUCH);
        }
        judge.tests.removeAt(test);
        return accept(judge.tests.size());
    }

    public int keeps() {
        return understood(program, sense) ? judge.tests.keptBy(sense) : UNFIT;
    }

    public int mend(int goal, int kind) {
        if (goal < READS || goal > PASSES) {
            return refuse(NO_NUMBER);
        }
        if (goal != READS && kind != NONE && !isKind(kind)) {
            return refuse(NO_NUMBER);
        }
        judge.ask(goal, kind);
        latest.begin(program);
        for (int changes = 0; changes <= MOST_CHANGES && latest.size() == 0; changes++) {
            latest.needChanges(changes);
            search.find(program, changes, judge, latest);
        }
        if (latest.isOverfull()) {
            latest.forgetAll();
            return refuse(NO_ROOM);
        }
        return latest.size() == 0 ? refuse(NOT_ANY) : accept(latest.size());
    }

    public int changes() {
        return latest.size() == 0 ? NONE : latest.changesNeeded();
    }

    public int mending(int i, int k) {
        if (!latest.has(i)) {
            return NONE;
        }
        return k == NONE ? latest.lengthOf(i) : latest.tokenOf(i, k);
    }

    public int rank(int i) {
        return latest.rankOf(i);
    }

    public int apart(int i, int k) {
        if (!latest.has(i) || !latest.has(k)) {
            return NO_SUCH;
        }
        latest.copyTo(i, scratch);
        boolean bothFit = understood(scratch, sense);
        latest.copyTo(k, scratch);
        bothFit = understood(scratch, otherSense) && bothFit;
        if (!bothFit) {
            return UNFIT;
        }
        return sense.kindMade() == otherSense.kindMade() ? firstUnlikeInput() : 0;
    }

    public int take(int i) {
        if (!latest.has(i)) {
            return refuse(NO_SUCH);
        }
        if (latest.lengthOf(i) > PROGRAM_ROOM) {
            return refuse(NO_ROOM);
        }
        latest.copyTo(i, program);
        latest.learnFrom(program);
        latest.forgetAll();
        return accept(program.size());
    }

    public int habit(int token, int what) {
        if (!isToken(token)) {
            return NONE;
        }
        switch (what) {
            case 0:
                return latest.habits.gainedOf(token);
            case 1:
                return latest.habits.lostOf(token);
            default:
                return NONE;
        }
    }

    public int forget() {
        latest.habits.forgetAll();
        return 0;
    }

    public int count(int what) {
        switch (what) {
            case 0:
                return program.size();
            case 1:
                return judge.tests.size();
            case 2:
                return latest.size();
            default:
                return NONE;
        }
    }

    public int status() {
        return refusal;
    }

    private int refuse(int why) {
        refusal = why;
        return why;
    }

    private int accept(int answer) {
        refusal = 0;
        return answer;
    }

    private boolean understood(Row row, Sense by) {
        return Reading.faultOf(row) == NONE && by.understand(row, judge.kinds) != NONE;
    }

    private void setInputs(int a, int b, int c, int d) {
        inputs[0] = a;
        inputs[1] = b;
        inputs[2] = c;
        inputs[3] = d;
    }

    private int firstUnlikeInput() {
        for (int n = 0; n < APART_INPUTS; n++) {
            setInputs(n / 125 - 2, n / 25 % 5 - 2, n / 5 % 5 - 2, n % 5 - 2);
            if (sense.work(inputs, 0) != otherSense.work(inputs, 0)) {
                return n;
            }
        }
        return NONE;
    }

    private static boolean isToken(int token) {
        return token >= 0 && token < TOKENS;
    }

    private static boolean isKind(int kind) {
        return kind == WHOLE || kind == TRUTH;
    }

    private static boolean isInput(int input) {
        return input >= -FARTHEST_INPUT && input <= FARTHEST_INPUT;
    }

    private static boolean isTooFar(long number) {
        return number > FARTHEST_VALUE || number < -FARTHEST_VALUE;
    }

    /** A row of tokens, with room for the longest mending. */
    private static final class Row {
        private final int[] tokens = new int[ROW_ROOM];
        private int size = 0;

        int size() {
            return size;
        }

        int at(int i) {
            return i >= 0 && i < size ? tokens[i] : NONE;
        }

        void add(int token) {
            if (size < ROW_ROOM) {
                tokens[size] = token;
                size++;
            }
        }

        void replace(int place, int token) {
            if (place >= 0 && place < size) {
                tokens[place] = token;
            }
        }

        void removeAt(int place) {
            if (place >= 0 && place < size) {
                for (int i = place; i + 1 < size; i++) {
                    tokens[i] = tokens[i + 1];
                }
                size--;
            }
        }

        void shorten(int length) {
            if (length >= 0 && length < size) {
                size = length;
            }
        }
    }

    /**
     * How far a row has been read, as one number: the lowest three bits say
     * what is due, and above them stands, three bits each and the innermost
     * lowest, what is still to be closed. One number makes a step cheap, and
     * a search can go back to an earlier one for nothing.
     */
    private static final class Reading {
        static final long START = 0L;
        static final long STUCK = -1L;

        private static final int CHOICE_DUE = 0;
        private static final int NOT_DUE = 1;
        private static final int ATOM_DUE = 2;
        private static final int ATOM_DUE_COMPARED = 3;
        private static final int DONE = 4;
        private static final int DONE_COMPARED = 5;

        // A bracket remembers whether the SIDES around it have been compared.
        private static final int IN_BRACKET = 1;
        private static final int IN_BRACKET_COMPARED = 2;
        private static final int IN_IF = 3;
        private static final int IN_THEN = 4;

        private static final int BITS = 3;
        private static final int MASK = 7;

        private static final int ATOMS = 1 << OPEN | (1 << TOKENS) - (1 << TRUE);
        private static final int SUMS = 1 << PLUS | 1 << MINUS | 1 << TIMES;
        private static final int COMPARISONS = 1 << LESS | 1 << ALIKE;

        static int faultOf(Row row) {
            long state = START;
            for (int i = 0; i < row.size(); i++) {
                state = after(state, row.at(i));
                if (state == STUCK) {
                    return i;
                }
            }
            return isWhole(state) ? NONE : row.size();
        }

        static boolean isWhole(long state) {
            return state == DONE || state == DONE_COMPARED;
        }

        /** The tokens that can come next, each as a bit. */
        static int followers(long state) {
            switch ((int) (state & MASK)) {
                case CHOICE_DUE:
                    return ATOMS | 1 << NOT | 1 << IF;
                case NOT_DUE:
                    return ATOMS | 1 << NOT;
                case ATOM_DUE:
                case ATOM_DUE_COMPARED:
                    return ATOMS;
                case DONE:
                    return SUMS | COMPARISONS | 1 << AND | closer(state);
                case DONE_COMPARED:
                    return SUMS | 1 << AND | closer(state);
                default:
                    return 0;
            }
        }

        private static int closer(long state) {
            switch (innermost(state)) {
                case IN_BRACKET:
                case IN_BRACKET_COMPARED:
                    return 1 << CLOSE;
                case IN_IF:
                    return 1 << THEN;
                case IN_THEN:
                    return 1 << ELSE;
                default:
                    return 0;
            }
        }

        static long after(long state, int token) {
            return isToken(token) && (followers(state) >> token & 1) != 0 ? follow(state, token) : STUCK;
        }

        /** The state behind a token that is known to be among the followers. */
        static long follow(long state, int token) {
            int due = (int) (state & MASK);
            boolean compared = due == ATOM_DUE_COMPARED || due == DONE_COMPARED;
            long open = state >> BITS;
            switch (token) {
                case OPEN:
                    return (open << BITS | (compared ? IN_BRACKET_COMPARED : IN_BRACKET)) << BITS | CHOICE_DUE;
                case CLOSE:
                    return open >> BITS << BITS
                        | (innermost(state) == IN_BRACKET_COMPARED ? DONE_COMPARED : DONE);
                case PLUS:
                case MINUS:
                case TIMES:
                    return open << BITS | (compared ? ATOM_DUE_COMPARED : ATOM_DUE);
                case LESS:
                case ALIKE:
                    return open << BITS | ATOM_DUE_COMPARED;
                case AND:
                case NOT:
                    return open << BITS | NOT_DUE;
                case IF:
                    return (open << BITS | IN_IF) << BITS | CHOICE_DUE;
                case THEN:
                    return (open >> BITS << BITS | IN_THEN) << BITS | CHOICE_DUE;
                case ELSE:
                    // Nothing closes what stands behind else: it ends where its surroundings go on.
                    return open >> BITS << BITS | CHOICE_DUE;
                default:
                    return open << BITS | (compared ? DONE_COMPARED : DONE);
            }
        }

        private static int innermost(long state) {
            return (int) (state >> BITS & MASK);
        }
    }

    /** What a row that reads makes: its steps in the order of work, operands ahead of operators. */
    private static final class Sense {
        // How tightly each token below "true" binds; what is only closed by a later token binds by 0.
        private static final int[] BINDING = {0, 0, 5, 5, 6, 4, 4, 2, 3, 0, 0, 1};
        private static final int LOOSEST = 1;
        // How many operands each of them takes once it is a step: "else" stands for the whole choice.
        private static final int[] OPERANDS = {0, 0, 2, 2, 2, 2, 2, 2, 1, 0, 0, 3};
        // A variable that is a truth has a step of its own, so that later work needs no kinds.
        private static final int FIRST_TRUTH_VARIABLE = TOKENS;

        private final int[] steps = new int[ROW_ROOM];
        private final int[] waiting = new int[ROW_ROOM];
        private final int[] stack = new int[ROW_ROOM];
        private int stepCount = 0;
        private int waitingCount = 0;
        private int height = 0;
        private boolean fitting = false;
        private int made = NONE;

        int kindMade() {
            return made;
        }

        /** The kind that a row which reads makes; NONE if it doesn't fit. */
        int understand(Row row, int[] kinds) {
            stepCount = 0;
            waitingCount = 0;
            height = 0;
            fitting = true;
            for (int i = 0; i < row.size() && fitting; i++) {
                int token = row.at(i);
                if (token >= TRUE) {
                    addOperand(token, kinds);
                } else if (token == OPEN || token == IF || token == NOT) {
                    await(token);
                } else if (token == CLOSE || token == THEN || token == ELSE) {
                    settle(LOOSEST);
                    waitingCount = Math.max(0, waitingCount - 1);
                    if (token != CLOSE) {
                        await(token);
                    }
                } else if (token >= 0) {
                    settle(BINDING[token]);
                    await(token);
                }
            }
            settle(LOOSEST);
            made = fitting && height == 1 && waitingCount == 0 ? stack[0] : NONE;
            return made;
        }

        private void await(int token) {
            if (waitingCount < ROW_ROOM) {
                waiting[waitingCount] = token;
                waitingCount++;
            }
        }

        private void settle(int binding) {
            while (waitingCount > 0 && BINDING[waiting[waitingCount - 1]] >= binding) {
                waitingCount--;
                addOperator(waiting[waitingCount]);
            }
        }

        private void addOperand(int token, int[] kinds) {
            if (height >= ROW_ROOM || stepCount >= ROW_ROOM) {
                fitting = false;
                return;
            }
            int kind = token < FIRST_VARIABLE ? TRUTH : WHOLE;
            int step = token;
            if (token >= FIRST_VARIABLE && token < FIRST_NUMBER && token - FIRST_VARIABLE < kinds.length) {
                kind = kinds[token - FIRST_VARIABLE];
                step = kind == TRUTH ? token - FIRST_VARIABLE + FIRST_TRUTH_VARIABLE : token;
            }
            steps[stepCount] = step;
            stepCount++;
            stack[height] = kind;
            height++;
        }

        private void addOperator(int token) {
            int left = height - OPERANDS[token];
            if (left < 0 || stepCount >= ROW_ROOM) {
                fitting = false;
                return;
            }
            int first = stack[left];
            int last = stack[height - 1];
            int result = TRUTH;
            switch (token) {
                case PLUS:
                case MINUS:
                case TIMES:
                    result = WHOLE;
                    fitting = fitting && first == WHOLE && last == WHOLE;
                    break;
                case LESS:
                    fitting = fitting && first == WHOLE && last == WHOLE;
                    break;
                case ALIKE:
                    fitting = fitting && first == last;
                    break;
                case ELSE:
                    result = last;
                    fitting = fitting && first == TRUTH && stack[height - 2] == last;
                    break;
                default:
                    fitting = fitting && first == TRUTH && last == TRUTH;
                    break;
            }
            steps[stepCount] = token;
            stepCount++;
            stack[left] = result;
            height = left + 1;
        }

        /** The value for the four inputs that stand at a place in a row of numbers. */
        int work(int[] numbers, int from) {
            if (made == NONE || from < 0 || from > numbers.length - VARIABLES) {
                return NOTHING;
            }
            height = 0;
            for (int i = 0; i < stepCount; i++) {
                int step = steps[i];
                int left = step >= TRUE ? height : height - OPERANDS[step];
                if (left < 0 || left >= ROW_ROOM) {
                    return NOTHING;
                }
                long part = step >= TRUE ? operand(step, numbers, from) : combine(step, left);
                if (isTooFar(part)) {
                    return NOTHING;
                }
                stack[left] = (int) part;
                height = left + 1;
            }
            return height == 1 ? stack[0] : NOTHING;
        }

        private static int operand(int step, int[] numbers, int from) {
            if (step >= FIRST_TRUTH_VARIABLE) {
                return numbers[from + step - FIRST_TRUTH_VARIABLE] != 0 ? 1 : 0;
            }
            if (step >= FIRST_NUMBER) {
                return step - FIRST_NUMBER;
            }
            if (step >= FIRST_VARIABLE) {
                return numbers[from + step - FIRST_VARIABLE];
            }
            return step == TRUE ? 1 : 0;
        }

        private long combine(int step, int left) {
            int first = stack[left];
            int last = stack[height - 1];
            switch (step) {
                case PLUS:
                    return first + last;
                case MINUS:
                    return first - last;
                case TIMES:
                    return (long) first * last;
                case LESS:
                    return first < last ? 1 : 0;
                case ALIKE:
                    return first == last ? 1 : 0;
                case AND:
                    return first & last;
                case NOT:
                    return 1 - first;
                default:
                    return first != 0 ? stack[height - 2] : last;
            }
        }
    }

    /** The tests, each as four inputs and what is wanted. */
    private static final class Tests {
        private static final int WIDTH = VARIABLES + 1;

        private final int[] cells = new int[TEST_ROOM * WIDTH];
        private int size = 0;

        int size() {
            return size;
        }

        void add(int[] inputs, int wanted) {
            if (size < TEST_ROOM && inputs.length >= VARIABLES) {
                for (int i = 0; i < VARIABLES; i++) {
                    cells[size * WIDTH + i] = inputs[i];
                }
                cells[size * WIDTH + VARIABLES] = wanted;
                size++;
            }
        }

        void removeAt(int place) {
            if (place >= 0 && place < size) {
                for (int i = place * WIDTH; i + WIDTH < size * WIDTH; i++) {
                    cells[i] = cells[i + WIDTH];
                }
                size--;
            }
        }

        int keptBy(Sense sense) {
            int kept = 0;
            for (int i = 0; i < size * WIDTH; i += WIDTH) {
                if (sense.work(cells, i) == cells[i + VARIABLES]) {
                    kept++;
                }
            }
            return kept;
        }

        boolean areAllKeptBy(Sense sense) {
            for (int i = 0; i < size * WIDTH; i += WIDTH) {
                if (sense.work(cells, i) != cells[i + VARIABLES]) {
                    return false;
                }
            }
            return true;
        }
    }

    /** How often each token was gained and lost in mendings that were taken. */
    private static final class Habits {
        private final int[] gained = new int[TOKENS];
        private final int[] lost = new int[TOKENS];

        int gainedOf(int token) {
            return isToken(token) ? gained[token] : NONE;
        }

        int lostOf(int token) {
            return isToken(token) ? lost[token] : NONE;
        }

        void forgetAll() {
            for (int token = 0; token < TOKENS; token++) {
                gained[token] = 0;
                lost[token] = 0;
            }
        }

        /** Grows by how many more there are of each token, or fewer. */
        void grow(int[] more) {
            for (int token = 0; token < TOKENS && token < more.length; token++) {
                gained[token] += Math.max(0, more[token]);
                lost[token] += Math.max(0, -more[token]);
            }
        }

        int rankOf(int[] more) {
            int sum = 0;
            for (int token = 0; token < TOKENS && token < more.length; token++) {
                sum += more[token] > 0 ? more[token] * gained[token] : -more[token] * lost[token];
            }
            return sum;
        }
    }

    /**
     * The latest mendings, always in their order. The tokens of one stand in
     * one number, five bits each and the last one lowest, so that of two alike
     * long ones the lower number is the lower row.
     */
    private static final class Mendings {
        private static final int BITS = 5;
        private static final int MASK = 31;

        final Habits habits = new Habits();
        private final long[] rows = new long[MENDING_ROOM];
        private final int[] lengths = new int[MENDING_ROOM];
        private final int[] ranks = new int[MENDING_ROOM];
        private final int[] had = new int[TOKENS];
        private final int[] more = new int[TOKENS];
        private int size = 0;
        private int changesNeeded = 0;
        private boolean overfull = false;

        int size() {
            return size;
        }

        boolean has(int i) {
            return i >= 0 && i < size;
        }

        boolean isOverfull() {
            return overfull;
        }

        int changesNeeded() {
            return changesNeeded;
        }

        void needChanges(int changes) {
            changesNeeded = changes;
        }

        int lengthOf(int i) {
            return has(i) ? lengths[i] : NONE;
        }

        int rankOf(int i) {
            return has(i) ? ranks[i] : NONE;
        }

        int tokenOf(int i, int k) {
            if (!has(i) || k < 0 || k >= lengths[i]) {
                return NONE;
            }
            return (int) (rows[i] >> BITS * (lengths[i] - 1 - k) & MASK);
        }

        void copyTo(int i, Row row) {
            row.shorten(0);
            for (int k = 0; k < lengthOf(i); k++) {
                row.add(tokenOf(i, k));
            }
        }

        void forgetAll() {
            size = 0;
            overfull = false;
        }

        /** None yet, for a program whose tokens later ones are compared with. */
        void begin(Row program) {
            forgetAll();
            for (int token = 0; token < TOKENS; token++) {
                had[token] = 0;
            }
            for (int i = 0; i < program.size(); i++) {
                if (isToken(program.at(i))) {
                    had[program.at(i)]++;
                }
            }
        }

        private void compare(Row row) {
            for (int token = 0; token < TOKENS; token++) {
                more[token] = -had[token];
            }
            for (int i = 0; i < row.size(); i++) {
                if (isToken(row.at(i))) {
                    more[row.at(i)]++;
                }
            }
        }

        void learnFrom(Row taken) {
            compare(taken);
            habits.grow(more);
        }

        void add(Row row) {
            if (size >= MENDING_ROOM) {
                overfull = true;
                return;
            }
            compare(row);
            int rank = habits.rankOf(more);
            long tokens = 0;
            for (int i = 0; i < row.size(); i++) {
                tokens = tokens << BITS | row.at(i);
            }
            int place = size;
            while (place > 0 && !isBefore(place - 1, tokens, row.size(), rank)) {
                rows[place] = rows[place - 1];
                lengths[place] = lengths[place - 1];
                ranks[place] = ranks[place - 1];
                place--;
            }
            rows[place] = tokens;
            lengths[place] = row.size();
            ranks[place] = rank;
            size++;
        }

        private boolean isBefore(int i, long tokens, int length, int rank) {
            if (ranks[i] != rank) {
                return ranks[i] > rank;
            }
            return lengths[i] != length ? lengths[i] < length : rows[i] < tokens;
        }
    }

    /** Says of a row that reads whether it does what is asked for. */
    private static final class Judge {
        final int[] kinds = new int[VARIABLES];
        final Tests tests = new Tests();
        private final Sense sense = new Sense();
        private int goal = READS;
        private int kindWanted = NONE;

        void ask(int goal, int kindWanted) {
            this.goal = goal;
            this.kindWanted = kindWanted;
        }

        boolean isContentWith(Row row) {
            if (goal == READS) {
                return true;
            }
            int made = sense.understand(row, kinds);
            if (made == NONE || kindWanted != NONE && made != kindWanted) {
                return false;
            }
            return goal != PASSES || tests.areAllKeptBy(sense);
        }
    }

    /**
     * Grows rows token by token, only such as can still become a row that
     * reads and is so many changes away from the program. Each row is grown
     * once, so none is found twice.
     */
    private static final class Search {
        private static final int WIDTH = PROGRAM_ROOM + 1;
        private static final int FAR = 99;
        private static final int ANY_TOKEN = -1;

        private final Row row = new Row();
        private final int[] written = new int[PROGRAM_ROOM];
        // Changes from the first j tokens of the program to the first d of the row, at d * WIDTH + j.
        private final int[] distances = new int[(ROW_ROOM + 1) * WIDTH];
        private int length = 0;
        private int budget = 0;

        Search() {
            // Lengths that differ by more than two are never filled in: they stay too far.
            for (int i = 0; i < distances.length; i++) {
                distances[i] = FAR;
            }
            for (int j = 0; j <= MOST_CHANGES; j++) {
                distances[j] = j;
            }
        }

        /** Adds to the found ones all rows so many changes away that the judge is content with. */
        void find(Row program, int changes, Judge judge, Mendings found) {
            length = Math.min(program.size(), PROGRAM_ROOM);
            for (int i = 0; i < length; i++) {
                written[i] = program.at(i);
            }
            budget = changes;
            row.shorten(0);
            grow(0, Reading.START, judge, found);
        }

        private void grow(int depth, long state, Judge judge, Mendings found) {
            if (depth < 0 || depth > ROW_ROOM || found.isOverfull()) {
                return;
            }
            // Rows with fewer changes were all judged by an earlier search.
            if (distances[depth * WIDTH + length] == budget && Reading.isWhole(state)
                && judge.isContentWith(row)) {
                found.add(row);
            }
            int next = depth < ROW_ROOM ? Reading.followers(state) & affordable(depth) : 0;
            for (int token = 0; token < TOKENS && next != 0; token++) {
                if ((next & 1) != 0) {
                    row.shorten(depth);
                    row.add(token);
                    measure(depth + 1, token);
                    grow(depth + 1, Reading.follow(state, token), judge, found);
                }
                next >>>= 1;
            }
        }

        /** The tokens that keep the row within the budget, each as a bit. */
        private int affordable(int depth) {
            int due = 0;
            int from = Math.max(0, depth - MOST_CHANGES);
            int to = Math.min(length, depth + MOST_CHANGES);
            for (int j = from; j <= to; j++) {
                int distance = distances[depth * WIDTH + j];
                if (distance < budget) {
                    return ANY_TOKEN;
                }
                if (distance == budget && j < length) {
                    due |= 1 << written[j];
                }
            }
            return due;
        }

        private void measure(int depth, int token) {
            int here = depth * WIDTH;
            int above = here - WIDTH;
            int from = Math.max(0, depth - MOST_CHANGES);
            int to = Math.min(length, depth + MOST_CHANGES);
            for (int j = from; j <= to; j++) {
                int best = distances[above + j] + 1;
                if (j > 0) {
                    int other = written[j - 1] == token ? 0 : 1;
                    best = Math.min(best, distances[above + j - 1] + other);
                    best = Math.min(best, distances[here + j - 1] + 1);
                }
                distances[here + j] = best;
            }
        }
    }
}
