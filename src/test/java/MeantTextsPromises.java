/** Each promise of the document: ordinary inputs, the edges that it names, and wrong inputs. */
public final class MeantTextsPromises {
    private static final int NOTHING = -2000000;
    private static final int LOW = Integer.MIN_VALUE;
    private static final int HIGH = Integer.MAX_VALUE;

    private static final int OPEN = 0, CLOSE = 1, PLUS = 2, MINUS = 3, TIMES = 4, LESS = 5, ALIKE = 6, AND = 7, NOT = 8;
    private static final int IF = 9, THEN = 10, ELSE = 11, TRUE = 12, FALSE = 13;
    private static final int A = 14, B = 15, C = 16, D = 17;

    private static int wrong = 0;
    private static int promise = 0;

    private static void due(String what, int got, int want) {
        if (got != want) {
            wrong++;
            System.out.println("promise " + promise + ": " + what + " answered " + got + ", due is " + want);
        }
    }

    private static int number(int n) {
        return 18 + n;
    }

    private static MeantTexts of(int... tokens) {
        MeantTexts x = new MeantTexts();
        rewrite(x, tokens);
        return x;
    }

    private static void rewrite(MeantTexts x, int... tokens) {
        x.clear();
        for (int token : tokens) {
            x.put(token);
        }
    }

    private static void dueProgram(String what, MeantTexts x, int... tokens) {
        due(what + ": length", x.token(-1), tokens.length);
        for (int i = 0; i < tokens.length; i++) {
            due(what + ": token " + i, x.token(i), tokens[i]);
        }
    }

    private static void dueMending(String what, MeantTexts x, int i, int... tokens) {
        due(what + ": length of " + i, x.mending(i, -1), tokens.length);
        for (int k = 0; k < tokens.length; k++) {
            due(what + ": token " + k + " of " + i, x.mending(i, k), tokens[k]);
        }
    }

    private static void newObject() {
        MeantTexts x = new MeantTexts();
        due("NONE", MeantTexts.NONE, -1);
        due("token(-1)", x.token(-1), 0);
        due("count(0)", x.count(0), 0);
        due("count(1)", x.count(1), 0);
        due("count(2)", x.count(2), 0);
        due("status()", x.status(), 0);
        due("changes()", x.changes(), -1);
        for (int v = 0; v < 4; v++) {
            due("kind(" + v + ", 0)", x.kind(v, 0), 0);
        }
        for (int token = 0; token < 28; token++) {
            due("gained " + token, x.habit(token, 0), 0);
            due("lost " + token, x.habit(token, 1), 0);
        }
        MeantTexts y = new MeantTexts();
        x.put(A);
        x.kind(0, 1);
        due("another object's tokens", y.token(-1), 0);
        due("another object's kinds", y.kind(0, 0), 0);
    }

    private static void put() {
        MeantTexts x = new MeantTexts();
        due("put(0)", x.put(0), 1);
        due("put(27)", x.put(27), 2);
        due("put(28)", x.put(28), -1);
        due("put(-1)", x.put(-1), -1);
        due("put(low)", x.put(LOW), -1);
        due("put(high)", x.put(HIGH), -1);
        dueProgram("after refusals", x, 0, 27);
        for (int n = 3; n <= 10; n++) {
            due("put " + n, x.put(n), n);
        }
        due("the eleventh", x.put(0), -5);
        due("a wrong eleventh: -1 is first", x.put(28), -1);
        dueProgram("full", x, 0, 27, 3, 4, 5, 6, 7, 8, 9, 10);
    }

    private static void set() {
        MeantTexts x = of(A, PLUS, B);
        due("set(1, *)", x.set(1, TIMES), 3);
        dueProgram("set(1, *)", x, A, TIMES, B);
        due("the same again", x.set(1, TIMES), 3);
        due("taken out at the front", x.set(0, -1), 2);
        dueProgram("taken out", x, TIMES, B);
        due("taken out at the end", x.set(1, -1), 1);
        dueProgram("taken out at the end", x, TIMES);
        due("set(1, 0)", x.set(1, 0), -2);
        due("set(-1, 0)", x.set(-1, 0), -2);
        due("set(low, 0)", x.set(LOW, 0), -2);
        due("set(high, -1)", x.set(HIGH, -1), -2);
        due("set(0, 28)", x.set(0, 28), -1);
        due("set(0, -2)", x.set(0, -2), -1);
        due("both wrong: -1 is first", x.set(9, 28), -1);
        dueProgram("after refusals", x, TIMES);
        due("the last one", x.set(0, -1), 0);
        due("none left", x.set(0, -1), -2);
        rewrite(x, 0, 1, 2, 3, 4, 5, 6, 7, 8, 9);
        due("out of a full one", x.set(3, -1), 9);
        dueProgram("out of a full one", x, 0, 1, 2, 4, 5, 6, 7, 8, 9);
    }

    private static void clear() {
        MeantTexts x = of(A, PLUS, B);
        x.test(1, 2, 3, 4, 5);
        x.kind(2, 1);
        due("clear()", x.clear(), 3);
        due("nothing left", x.count(0), 0);
        due("clear() of an empty one", x.clear(), 0);
        due("tests stay", x.count(1), 1);
        due("kinds stay", x.kind(2, 1), 1);
    }

    private static void token() {
        MeantTexts x = of(A, PLUS);
        due("token(-1)", x.token(-1), 2);
        due("token(0)", x.token(0), A);
        due("token(1)", x.token(1), PLUS);
        due("token(2)", x.token(2), -1);
        due("token(-2)", x.token(-2), -1);
        due("token(low)", x.token(LOW), -1);
        due("token(high)", x.token(HIGH), -1);
    }

    private static void kind() {
        MeantTexts x = of(D);
        due("kind(3, 1)", x.kind(3, 1), 0);
        due("it counts", x.fits(), 1);
        due("kind(3, 1) again", x.kind(3, 1), 1);
        due("kind(3, 0)", x.kind(3, 0), 1);
        due("it counts again", x.fits(), 0);
        int[][] refused = {{4, 0}, {-1, 0}, {0, 2}, {0, -1}, {LOW, HIGH}, {HIGH, LOW}};
        for (int[] r : refused) {
            due("kind(" + r[0] + ", " + r[1] + ")", x.kind(r[0], r[1]), -1);
        }
        due("refused ones change nothing", x.kind(0, 0), 0);
    }

    private static void fault() {
        due("nothing", of().fault(), 0);
        int[] whole = {TRUE, FALSE, A, B, C, D, number(0), number(9)};
        for (int token : whole) {
            due("the one token " + token, of(token).fault(), -1);
        }
        int[] begun = {OPEN, NOT, IF};
        for (int token : begun) {
            due("only begun with " + token, of(token).fault(), 1);
        }
        int[] never = {CLOSE, PLUS, MINUS, TIMES, LESS, ALIKE, AND, THEN, ELSE};
        for (int token : never) {
            due("never begun with " + token, of(token).fault(), 0);
        }
        due("a sum", of(A, PLUS, B, TIMES, number(2), MINUS, C).fault(), -1);
        due("two operands", of(A, B).fault(), 1);
        due("two comparisons", of(A, LESS, B, ALIKE, C).fault(), 3);
        due("a comparison on each side of and", of(A, LESS, B, AND, C, LESS, D).fault(), -1);
        due("comparison in a bracket", of(A, LESS, OPEN, B, LESS, C, CLOSE).fault(), -1);
        due("comparison behind a bracket that a comparison holds", of(A, LESS, OPEN, B, CLOSE, LESS, C).fault(), 5);
        due("comparison behind a bracket", of(OPEN, A, LESS, B, CLOSE, ALIKE, TRUE).fault(), -1);
        due("sum behind a comparison", of(A, LESS, B, PLUS, C, ALIKE).fault(), 5);
        due("not not", of(NOT, NOT, A).fault(), -1);
        due("not behind and", of(A, AND, NOT, B).fault(), -1);
        due("not behind a comparison", of(A, ALIKE, NOT, B).fault(), 2);
        due("not behind plus", of(A, PLUS, NOT).fault(), 2);
        due("if behind plus", of(A, PLUS, IF).fault(), 2);
        due("if behind and", of(A, AND, IF).fault(), 2);
        due("if behind not", of(NOT, IF).fault(), 1);
        due("if in a bracket", of(A, PLUS, OPEN, IF, A, THEN, A, ELSE, A, CLOSE).fault(), -1);
        due("if inside if", of(IF, IF, A, THEN, B, ELSE, C, THEN, D).fault(), 9);
        due("if inside then", of(IF, A, THEN, IF, B, THEN, C, ELSE, D, ELSE).fault(), 10);
        due("then without if", of(A, THEN).fault(), 1);
        due("else without then", of(IF, A, ELSE).fault(), 2);
        due("then again", of(IF, A, THEN, B, THEN).fault(), 4);
        due("else again", of(IF, A, THEN, B, ELSE, C, ELSE).fault(), 6);
        due("bracket left open", of(OPEN, A).fault(), 2);
        due("empty bracket", of(OPEN, CLOSE).fault(), 1);
        due("bracket across then", of(IF, OPEN, A, THEN).fault(), 3);
        due("if closed by a bracket too early", of(OPEN, IF, A, CLOSE).fault(), 3);
        due("minus alone", of(MINUS, A).fault(), 0);
    }

    private static void fits() {
        due("nothing", of().fits(), -5);
        due("unread", of(A, PLUS).fits(), -5);
        due("unread though its kinds are wrong too", of(TRUE, PLUS, A, A).fits(), -5);
        int[] sums = {PLUS, MINUS, TIMES};
        for (int op : sums) {
            due("numbers by " + op, of(A, op, number(3)).fits(), 0);
            due("truth left of " + op, of(TRUE, op, A).fits(), -6);
            due("truth right of " + op, of(A, op, FALSE).fits(), -6);
        }
        due("less", of(A, LESS, B).fits(), 1);
        due("less of truths", of(TRUE, LESS, FALSE).fits(), -6);
        due("less, truth on the left", of(TRUE, LESS, A).fits(), -6);
        due("less, truth on the right", of(A, LESS, TRUE).fits(), -6);
        due("= of numbers", of(A, ALIKE, B).fits(), 1);
        due("= of truths", of(TRUE, ALIKE, FALSE).fits(), 1);
        due("= of both", of(TRUE, ALIKE, A).fits(), -6);
        due("and", of(TRUE, AND, FALSE).fits(), 1);
        due("and, a number on the left", of(A, AND, TRUE).fits(), -6);
        due("and, a number on the right", of(TRUE, AND, A).fits(), -6);
        due("not", of(NOT, TRUE).fits(), 1);
        due("not of a number", of(NOT, A).fits(), -6);
        due("not binds looser than =", of(NOT, A, ALIKE, B).fits(), 1);
        due("not binds tighter than and", of(NOT, TRUE, AND, A).fits(), -6);
        due("if with numbers", of(IF, TRUE, THEN, A, ELSE, B).fits(), 0);
        due("if with truths", of(IF, TRUE, THEN, TRUE, ELSE, FALSE).fits(), 1);
        due("if with unlike ones", of(IF, TRUE, THEN, A, ELSE, FALSE).fits(), -6);
        due("if asks a number", of(IF, A, THEN, A, ELSE, A).fits(), -6);
        due("a wrong part that isn't chosen", of(IF, TRUE, THEN, A, ELSE, NOT, A).fits(), -6);
        MeantTexts x = of(A, AND, B);
        due("numbers at first", x.fits(), -6);
        x.kind(0, 1);
        x.kind(1, 1);
        due("truths", x.fits(), 1);
    }

    private static void value() {
        due("nothing", of().value(0, 0, 0, 0), NOTHING);
        due("unread", of(A, A).value(0, 0, 0, 0), NOTHING);
        due("unfit", of(NOT, A).value(0, 0, 0, 0), NOTHING);
        int[] inputs = {11, -22, 33, -44};
        for (int v = 0; v < 4; v++) {
            due("variable " + v, of(A + v).value(11, -22, 33, -44), inputs[v]);
        }
        due("a number", of(number(9)).value(0, 0, 0, 0), 9);
        due("true", of(TRUE).value(0, 0, 0, 0), 1);
        due("false", of(FALSE).value(0, 0, 0, 0), 0);
        due("from left to right", of(A, MINUS, B, MINUS, C).value(10, 3, 2, 0), 5);
        due("times is tighter", of(A, PLUS, B, TIMES, C).value(2, 3, 4, 0), 14);
        due("brackets", of(OPEN, A, PLUS, B, CLOSE, TIMES, C).value(2, 3, 4, 0), 20);
        due("less", of(A, LESS, B).value(1, 2, 0, 0), 1);
        due("not less", of(A, LESS, B).value(2, 2, 0, 0), 0);
        due("=", of(A, ALIKE, B).value(2, 2, 0, 0), 1);
        due("= of truths", of(TRUE, ALIKE, FALSE).value(0, 0, 0, 0), 0);
        due("and", of(A, LESS, B, AND, TRUE).value(1, 2, 0, 0), 1);
        due("not of all behind it", of(NOT, A, LESS, B).value(1, 2, 0, 0), 0);
        due("not ahead of and", of(NOT, FALSE, AND, FALSE).value(0, 0, 0, 0), 0);
        due("not and", of(NOT, OPEN, FALSE, AND, TRUE, CLOSE).value(0, 0, 0, 0), 1);
        MeantTexts nested = of(IF, TRUE, THEN, A, ELSE, B, PLUS, number(1));
        due("then", nested.value(5, 6, 0, 0), 5);
        nested.set(1, FALSE);
        due("else goes on to the end", nested.value(5, 6, 0, 0), 7);
        MeantTexts truth = of(IF, D, THEN, number(7), ELSE, number(8));
        truth.kind(3, 1);
        due("a truth by 1", truth.value(0, 0, 0, 1), 7);
        due("a truth by 0", truth.value(0, 0, 0, 0), 8);
        due("a truth by anything else", truth.value(0, 0, 0, LOW), 7);
        MeantTexts alone = of(D);
        alone.kind(3, 1);
        due("a truth is 0 or 1", alone.value(0, 0, 0, -5), 1);
        due("just within", of(A, TIMES, A).value(1000, 0, 0, 0), 1000000);
        due("just within below", of(A, TIMES, B).value(1000, -1000, 0, 0), -1000000);
        due("above", of(A, TIMES, A, PLUS, number(1)).value(1000, 0, 0, 0), NOTHING);
        due("below", of(A, TIMES, B, MINUS, number(1)).value(1000, -1000, 0, 0), NOTHING);
        due("a part above", of(A, TIMES, A, MINUS, A, TIMES, A).value(1001, 0, 0, 0), NOTHING);
        due("a part that isn't chosen", of(IF, TRUE, THEN, number(1), ELSE, A, TIMES, A).value(1001, 0, 0, 0), NOTHING);
        due("a product beyond an int", of(A, TIMES, A).value(65536, 0, 0, 0), NOTHING);
        due("an input at the edge", of(A).value(1000000, 0, 0, 0), 1000000);
        due("an input above", of(A).value(1000001, 0, 0, 0), NOTHING);
        due("an input below", of(A).value(-1000001, 0, 0, 0), NOTHING);
        due("inputs far off", of(A, PLUS, A).value(HIGH, 0, 0, 0), NOTHING);
        due("inputs far below", of(A).value(LOW, 0, 0, 0), NOTHING);
        due("an input that is no part", of(A).value(3, HIGH, LOW, HIGH), 3);
        due("a compared part above", of(A, LESS, B).value(1000001, 0, 0, 0), NOTHING);
    }

    private static void test() {
        MeantTexts x = new MeantTexts();
        due("first", x.test(-100, 100, -100, 100, -1000000), 0);
        due("second", x.test(0, 0, 0, 0, 1000000), 1);
        due("a above", x.test(101, 0, 0, 0, 0), -1);
        due("b below", x.test(0, -101, 0, 0, 0), -1);
        due("c above", x.test(0, 0, HIGH, 0, 0), -1);
        due("d below", x.test(0, 0, 0, LOW, 0), -1);
        due("wanted above", x.test(0, 0, 0, 0, 1000001), -1);
        due("wanted below", x.test(0, 0, 0, 0, -1000001), -1);
        due("wanted far below", x.test(0, 0, 0, 0, LOW), -1);
        due("how many", x.count(1), 2);
        for (int n = 2; n < 8; n++) {
            due("test " + n, x.test(n, 0, 0, 0, 0), n);
        }
        due("the ninth", x.test(0, 0, 0, 0, 0), -5);
        due("a wrong ninth: -1 is first", x.test(0, 0, 0, 101, 0), -1);
        due("still eight", x.count(1), 8);
    }

    private static void drop() {
        MeantTexts x = of(A);
        due("none there", x.drop(0), -2);
        for (int n = 0; n < 8; n++) {
            x.test(n, 0, 0, 0, n == 2 ? 2 : 50);
        }
        due("drop(8)", x.drop(8), -2);
        due("drop(-1)", x.drop(-1), -2);
        due("drop(low)", x.drop(LOW), -2);
        due("drop(high)", x.drop(HIGH), -2);
        due("drop(0)", x.drop(0), 7);
        due("the one that is kept is there", x.keeps(), 1);
        due("drop(2), which was 3", x.drop(2), 6);
        due("it is still there", x.keeps(), 1);
        due("drop(1), which was 2", x.drop(1), 5);
        due("it is gone", x.keeps(), 0);
        due("the last", x.drop(4), 4);
        due("room again", x.test(9, 0, 0, 0, 9), 4);
        due("it is kept", x.keeps(), 1);
        due("how many", x.count(1), 5);
    }

    private static void keeps() {
        MeantTexts x = of(A, PLUS, B);
        due("no tests", x.keeps(), 0);
        x.test(1, 2, 0, 0, 3);
        x.test(1, 2, 0, 0, 4);
        x.test(-5, 5, 0, 0, 0);
        due("two of three", x.keeps(), 2);
        x.put(PLUS);
        due("unread", x.keeps(), -6);
        x.put(TRUE);
        due("unfit", x.keeps(), -6);
        rewrite(x, TRUE);
        x.test(0, 0, 0, 0, 1);
        due("a truth is 1", x.keeps(), 1);
        x.test(0, 0, 0, 0, 7);
        due("a truth isn't 7", x.keeps(), 1);
        MeantTexts truth = of(C);
        truth.kind(2, 1);
        truth.test(0, 0, -7, 0, 1);
        truth.test(0, 0, 0, 0, 0);
        truth.test(0, 0, -7, 0, -7);
        due("inputs of a truth by 0 or not", truth.keeps(), 2);
        truth.kind(2, 0);
        due("tests keep their inputs as they were", truth.keeps(), 2);
        MeantTexts none = of(A, TIMES, A, TIMES, A, TIMES, A);
        none.test(100, 0, 0, 0, 0);
        due("without a value none is kept", none.keeps(), 0);
    }

    private static void mend() {
        MeantTexts x = of(A);
        due("it reads already", x.mend(0, -1), 1);
        due("no changes", x.changes(), 0);
        dueMending("itself", x, 0, A);
        int[][] refused = {{-1, 0}, {3, 0}, {1, 2}, {1, -2}, {2, 2}, {2, LOW}, {HIGH, 0}, {LOW, 0}};
        for (int[] r : refused) {
            due("mend(" + r[0] + ", " + r[1] + ")", x.mend(r[0], r[1]), -1);
            due("the latest stay", x.count(2), 1);
        }
        due("of goal 0 the kind isn't looked at", x.mend(0, 77), 1);
        due("status of it", x.status(), 0);
        due("a truth wanted", x.mend(1, 1), 2);
        dueMending("true", x, 0, TRUE);
        dueMending("false", x, 1, FALSE);
        rewrite(x, IF, A, THEN, B, ELSE, C);
        due("if asks a truth", x.mend(1, 0), 2);
        due("one change", x.changes(), 1);
        dueMending("by true", x, 0, IF, TRUE, THEN, B, ELSE, C);
        dueMending("by false", x, 1, IF, FALSE, THEN, B, ELSE, C);
        rewrite(x, A, A);
        // "a", "not a", and one of the five signs or "and" between the two.
        due("put in, taken out", x.mend(0, -1), 8);
        dueMending("the shorter first", x, 0, A);
        dueMending("not a", x, 1, NOT, A);
        dueMending("then the lower", x, 2, A, PLUS, A);
        dueMending("the last", x, 7, A, AND, A);
        rewrite(x, CLOSE, CLOSE, A, LESS, B);
        due("the first two are wrong", x.mend(1, -1) > 0 ? x.changes() : -1, 2);
        dueMending("both taken out", x, 0, A, LESS, B);
        dueMending("one taken out", x, 1, NOT, A, LESS, B);
        rewrite(x, A, LESS, B, CLOSE, CLOSE);
        due("the last two are wrong", x.mend(1, -1) > 0 ? x.changes() : -1, 2);
        dueMending("both taken out", x, 0, A, LESS, B);
        rewrite(x, PLUS, PLUS, PLUS, PLUS, PLUS, PLUS);
        due("not by two", x.mend(0, -1), -6);
        due("none are the latest", x.count(2), 0);
        tooMany();
        passing();
        keptThoughAllChanges();
    }

    private static void tooMany() {
        MeantTexts x = of(A);
        x.mend(0, -1);
        // "x + y" and "x * y" alone, each of sixteen atoms, are 512.
        rewrite(x, PLUS, TIMES);
        due("more than 300", x.mend(0, -1), -5);
        due("none are the latest", x.count(2), 0);
        due("changes() then", x.changes(), -1);
        due("status then", x.status(), -5);
        // Of twelve whole numbers: "x - y", "x + y", and each alone.
        rewrite(x, MINUS, PLUS);
        x.kind(0, 1);
        x.kind(1, 1);
        due("just 300", x.mend(1, 0), 300);
        dueMending("the first of 300", x, 0, C);
        dueMending("the last of 300", x, 299, number(9), MINUS, number(9));
        due("behind 300", x.mending(300, -1), -1);
        rewrite(x, NOT, ALIKE, PLUS);
        x.kind(1, 0);
        x.kind(2, 1);
        x.kind(3, 1);
        due("302", x.mend(1, 1), -5);
        due("none are the latest", x.count(2), 0);
    }

    private static void passing() {
        MeantTexts x = of(A, MINUS, B);
        x.test(3, 4, 0, 0, 7);
        x.test(5, 1, 0, 0, 6);
        due("passes by one change", x.mend(2, -1), 1);
        dueMending("plus", x, 0, A, PLUS, B);
        due("of the other kind not at all", x.mend(2, 1), -6);
        rewrite(x, A);
        due("passes by two", x.mend(2, 0), 2);
        due("two changes", x.changes(), 2);
        dueMending("a + b", x, 0, A, PLUS, B);
        dueMending("b + a", x, 1, B, PLUS, A);
        rewrite(x, A, PLUS, B);
        due("passes already", x.mend(2, 0), 1);
        due("no changes", x.changes(), 0);
        MeantTexts bare = of(NOT, A);
        due("without tests it is enough to fit", bare.mend(2, -1), bare.mend(1, -1));
        due("three brackets short", of(OPEN, OPEN, OPEN, A, PLUS, B, PLUS, C, PLUS, D).mend(0, -1), -6);
    }

    private static void keptThoughAllChanges() {
        MeantTexts x = of(A, MINUS, B);
        x.test(3, 4, 0, 0, 7);
        x.mend(2, 0);
        x.clear();
        x.kind(0, 1);
        x.drop(0);
        due("kept", x.count(2), 1);
        due("changes kept", x.changes(), 1);
        dueMending("kept", x, 0, A, PLUS, B);
    }

    private static void changes() {
        MeantTexts x = new MeantTexts();
        due("ahead of any", x.changes(), -1);
        x.mend(1, 0);
        due("one", x.changes(), 1);
        x.put(A);
        x.mend(1, 0);
        due("none", x.changes(), 0);
        rewrite(x, A, PLUS);
        x.mend(1, 1);
        due("two", x.changes(), 2);
        x.mend(9, 9);
        due("a refused number leaves them", x.changes(), 2);
        rewrite(x, CLOSE, CLOSE, CLOSE, CLOSE);
        x.mend(0, 0);
        due("not by two", x.changes(), -1);
    }

    private static void mending() {
        MeantTexts x = of(A, PLUS);
        due("ahead of any", x.mending(0, -1), -1);
        x.mend(1, 0);
        dueMending("first", x, 0, A);
        dueMending("second", x, 1, A, PLUS, A);
        due("behind its end", x.mending(0, 1), -1);
        due("behind its end", x.mending(1, 3), -1);
        int[] far = {-2, LOW, HIGH, 64};
        for (int k : far) {
            due("mending(0, " + k + ")", x.mending(0, k), -1);
            due("mending(" + k + ", 0)", x.mending(k, 0), -1);
            due("mending(" + k + ", -1)", x.mending(k, -1), -1);
        }
        due("mending(-1, -1)", x.mending(-1, -1), -1);
        due("mending(15, -1)", x.mending(15, -1), -1);
        dueMending("last", x, 14, A, PLUS, number(9));
        MeantTexts longest = of(OPEN, OPEN, A, PLUS, B, PLUS, C, PLUS, D, CLOSE);
        due("a bracket short", longest.mend(0, -1), 7);
        dueMending("nine first", longest, 0, OPEN, A, PLUS, B, PLUS, C, PLUS, D, CLOSE);
        dueMending("eleven last", longest, 6, OPEN, OPEN, A, PLUS, B, PLUS, C, PLUS, D, CLOSE, CLOSE);
        rewrite(longest, OPEN, OPEN, NOT, A, PLUS, B, PLUS, C, PLUS, D);
        int last = longest.mend(0, -1) - 1;
        due("two brackets short", longest.changes(), 2);
        dueMending("twelve last", longest, last, OPEN, OPEN, NOT, A, PLUS, B, PLUS, C, PLUS, D, CLOSE, CLOSE);
        due("behind twelve", longest.mending(last, 12), -1);
        due("too long to be taken", longest.take(last), -5);
    }

    private static void rank() {
        MeantTexts x = new MeantTexts();
        due("ahead of any", x.rank(0), -1);
        learnTwo(x);
        x.clear();
        x.mend(1, 0);
        due("how many", x.count(2), 14);
        dueMending("gained most", x, 0, number(2));
        due("rank(0)", x.rank(0), 2);
        due("rank(1)", x.rank(1), 0);
        dueMending("of alike ones the lower", x, 1, A);
        due("rank(13)", x.rank(13), 0);
        due("rank(14)", x.rank(14), -1);
        due("rank(-1)", x.rank(-1), -1);
        due("rank(low)", x.rank(LOW), -1);
        due("rank(high)", x.rank(HIGH), -1);
        learnD(x);
        x.clear();
        x.mend(1, 0);
        due("still two", x.rank(0), 2);
        dueMending("then one gained once", x, 1, D);
        due("one", x.rank(1), 1);
        due("none", x.rank(2), 0);
        x.forget();
        due("as it was ordered", x.rank(0), 2);
        learnTwo(x);
        rewrite(x, B, number(7));
        x.mend(1, 0);
        due("a number was lost twice, B never", x.rank(0), 2);
        dueMending("the lost one first", x, 0, B);
        due("how many ways", x.count(2), 5);
        dueMending("then one that was never lost", x, 1, number(7));
        due("rank(1)", x.rank(1), 0);
        dueMending("then longer ones", x, 2, B, PLUS, number(7));
    }

    /** Number 2 is gained twice, number 7 lost twice. */
    private static void learnTwo(MeantTexts x) {
        while (x.count(1) > 0) {
            x.drop(0);
        }
        x.test(3, 0, 0, 0, 5);
        for (int i = 0; i < 2; i++) {
            rewrite(x, A, PLUS, number(7));
            due("it is meant so", x.mend(2, 0), 1);
            due("taken", x.take(0), 3);
        }
        while (x.count(1) > 0) {
            x.drop(0);
        }
    }

    /** D is gained once, C lost once. */
    private static void learnD(MeantTexts x) {
        rewrite(x, C);
        x.test(5, 6, 7, 99, 99);
        due("it is meant so", x.mend(2, 0), 1);
        due("taken", x.take(0), 1);
        x.drop(0);
    }

    private static void apart() {
        MeantTexts x = of(A, PLUS);
        due("ahead of any", x.apart(0, 0), -2);
        x.mend(1, 0);
        // 0: a; 1 .. 4: a + a .. a + d; 5: a + 0; 6: a + 1.
        due("never", x.apart(0, 5), -1);
        due("with itself", x.apart(3, 3), -1);
        due("at once", x.apart(0, 6), 0);
        due("a and a + a", x.apart(0, 1), 0);
        due("a + a, a + b", x.apart(1, 2), 25);
        due("a + b, a + c", x.apart(2, 3), 5);
        due("a + c, a + d", x.apart(3, 4), 1);
        due("a + d, a + c", x.apart(4, 3), 1);
        int[] far = {-1, 15, LOW, HIGH};
        for (int i : far) {
            due("apart(0, " + i + ")", x.apart(0, i), -2);
            due("apart(" + i + ", 0)", x.apart(i, 0), -2);
        }
        rewrite(x, A, PLUS, B, PLUS, C, PLUS, D, LESS);
        due("a + b + c + d below each", x.mend(1, 1), 14);
        due("below 8 and below 9: only where all are 2", x.apart(12, 13), 624);
        due("below 7 and below 8", x.apart(11, 12), 499);
        rewrite(x, A, PLUS);
        x.mend(0, 0);
        due("a + true doesn't fit", x.apart(0, 1), -6);
        due("nor on the other side", x.apart(1, 0), -6);
        due("-2 is first", x.apart(1, 99), -2);
        apartTruths();
    }

    private static void apartTruths() {
        MeantTexts x = new MeantTexts();
        x.kind(0, 1);
        x.mend(1, -1);
        // 0: true; 1: false; 2: a, a truth; 3: b, a number.
        due("of unlike kinds", x.apart(0, 3), 0);
        due("true and a", x.apart(0, 2), 250);
        due("false and a", x.apart(1, 2), 0);
        due("b and c", x.apart(3, 4), 5);
        x.kind(0, 0);
        due("kinds as they are now", x.apart(2, 3), 25);
        due("true and a number now", x.apart(0, 2), 0);
    }

    private static void take() {
        MeantTexts x = of(A, PLUS, number(1));
        due("ahead of any", x.take(0), -2);
        x.test(2, 0, 0, 0, 4);
        x.test(5, 0, 0, 0, 10);
        x.mend(2, 0);
        int[] far = {1, -1, LOW, HIGH};
        for (int i : far) {
            due("take(" + i + ")", x.take(i), -2);
        }
        due("still there", x.count(2), 1);
        rewrite(x, B, B, B, B, B);
        due("take(0)", x.take(0), 3);
        dueProgram("it is the program", x, A, PLUS, A);
        due("gained as they were made", x.habit(A, 0), 1);
        due("lost as they were made", x.habit(number(1), 1), 1);
        due("not by what came later", x.habit(B, 1), 0);
        due("plus neither", x.habit(PLUS, 0) + x.habit(PLUS, 1), 0);
        due("the latest are none", x.count(2), 0);
        due("changes() then", x.changes(), -1);
        due("again", x.take(0), -2);
        x.mend(2, 0);
        due("without changes", x.take(0), 3);
        due("nothing gained", x.habit(A, 0), 1);
        rewrite(x, A);
        x.drop(0);
        x.drop(0);
        x.test(2, 0, 0, 0, 6);
        x.test(5, 0, 0, 0, 15);
        due("two more", x.mend(2, 0), 2);
        dueMending("a * 3", x, 0, A, TIMES, number(3));
        x.take(0);
        due("times gained", x.habit(TIMES, 0), 1);
        due("three gained", x.habit(number(3), 0), 1);
        due("a neither", x.habit(A, 0), 1);
        takeTooLong();
    }

    private static void takeTooLong() {
        MeantTexts x = of(OPEN, OPEN, A, PLUS, B, PLUS, C, PLUS, D, CLOSE);
        x.mend(0, -1);
        due("of eleven tokens", x.take(6), -5);
        due("status", x.status(), -5);
        due("nothing is taken", x.count(2), 7);
        due("no habit", x.habit(CLOSE, 0), 0);
        due("the program stays", x.count(0), 10);
        due("-2 is first", x.take(7), -2);
        due("nine are taken", x.take(0), 9);
        due("a bracket is lost", x.habit(OPEN, 1), 1);
        due("the other isn't", x.habit(CLOSE, 1), 0);
        MeantTexts full = of(NOT, A, LESS, B, PLUS, C, PLUS, D, PLUS, number(1));
        due("ten, which read", full.mend(0, -1), 1);
        full.clear();
        due("ten are taken", full.take(0), 10);
        dueProgram("ten", full, NOT, A, LESS, B, PLUS, C, PLUS, D, PLUS, number(1));
    }

    private static void habit() {
        MeantTexts x = new MeantTexts();
        learnTwo(x);
        due("gained", x.habit(number(2), 0), 2);
        due("lost", x.habit(number(2), 1), 0);
        due("gained 7", x.habit(number(7), 0), 0);
        due("lost 7", x.habit(number(7), 1), 2);
        int[][] far = {{-1, 0}, {28, 0}, {0, 2}, {0, -1}, {LOW, 0}, {HIGH, 1}, {0, LOW}, {0, HIGH}};
        for (int[] f : far) {
            due("habit(" + f[0] + ", " + f[1] + ")", x.habit(f[0], f[1]), -1);
        }
    }

    private static void forget() {
        MeantTexts x = new MeantTexts();
        due("with none", x.forget(), 0);
        learnTwo(x);
        due("with some", x.forget(), 0);
        for (int token = 0; token < 28; token++) {
            due("gained", x.habit(token, 0), 0);
            due("lost", x.habit(token, 1), 0);
        }
        dueProgram("the program stays", x, A, PLUS, number(2));
        x.clear();
        x.mend(1, 0);
        due("nothing is likelier now", x.rank(0), 0);
        dueMending("by tokens alone", x, 0, A);
    }

    private static void count() {
        MeantTexts x = of(A, PLUS);
        x.test(0, 0, 0, 0, 0);
        x.mend(0, 0);
        due("tokens", x.count(0), 2);
        due("tests", x.count(1), 1);
        due("mendings", x.count(2), 17);
        int[] far = {3, -1, LOW, HIGH};
        for (int what : far) {
            due("count(" + what + ")", x.count(what), -1);
        }
    }

    private static void dueStatus(MeantTexts x, int answer, int want) {
        due("the answer", answer, want);
        due("status() of it", x.status(), want < 0 ? want : 0);
    }

    private static void status() {
        MeantTexts x = new MeantTexts();
        dueStatus(x, x.put(28), -1);
        dueStatus(x, x.put(A), 1);
        dueStatus(x, x.set(1, 0), -2);
        dueStatus(x, x.set(0, B), 1);
        dueStatus(x, x.set(0, 28), -1);
        dueStatus(x, x.kind(0, 0), 0);
        dueStatus(x, x.kind(4, 0), -1);
        dueStatus(x, x.test(0, 0, 0, 0, 0), 0);
        dueStatus(x, x.test(0, 0, 0, 500, 0), -1);
        dueStatus(x, x.test(0, 0, 0, 0, 0), 1);
        dueStatus(x, x.drop(2), -2);
        dueStatus(x, x.drop(0), 1);
        dueStatus(x, x.kind(0, 1), 0);
        due("an answer of 1", x.kind(0, 0), 1);
        due("is no refusal", x.status(), 0);
        dueStatus(x, x.drop(0), 0);
        dueStatus(x, x.drop(0), -2);
        dueStatus(x, x.mend(0, 0), 1);
        dueStatus(x, x.take(1), -2);
        dueStatus(x, x.take(0), 1);
        dueStatus(x, x.mend(5, 0), -1);
        x.clear();
        x.token(99);
        x.fault();
        x.fits();
        x.value(0, 0, 0, 0);
        x.keeps();
        x.changes();
        x.mending(0, 0);
        x.rank(0);
        x.apart(0, 0);
        x.habit(99, 0);
        x.forget();
        x.count(9);
        due("others leave it", x.status(), -1);
        rewrite(x, PLUS, TIMES);
        dueStatus(x, x.mend(0, 0), -5);
        rewrite(x, CLOSE, CLOSE, CLOSE, CLOSE);
        dueStatus(x, x.mend(0, 0), -6);
        x.apart(0, 0);
        due("still", x.status(), -6);
    }

    private interface Promise {
        void hold();
    }

    public static void main(String[] args) {
        Promise[] promises = {
            MeantTextsPromises::newObject, MeantTextsPromises::put, MeantTextsPromises::set,
            MeantTextsPromises::clear, MeantTextsPromises::token, MeantTextsPromises::kind,
            MeantTextsPromises::fault, MeantTextsPromises::fits, MeantTextsPromises::value,
            MeantTextsPromises::test, MeantTextsPromises::drop, MeantTextsPromises::keeps,
            MeantTextsPromises::mend, MeantTextsPromises::changes, MeantTextsPromises::mending,
            MeantTextsPromises::rank, MeantTextsPromises::apart, MeantTextsPromises::take,
            MeantTextsPromises::habit, MeantTextsPromises::forget, MeantTextsPromises::count,
            MeantTextsPromises::status,
        };
        for (Promise p : promises) {
            promise++;
            p.hold();
        }
        System.out.println(promise + " promises, " + wrong + " answers are not as due");
        if (wrong != 0) {
            System.exit(1);
        }
    }
}
