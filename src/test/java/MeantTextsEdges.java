import java.util.Arrays;
import java.util.List;

/**
 * The boundary cases of each promise, one run of calls on a new object each. A run is written as
 * calls with the answers that are due, "put 28 = -1; count 0 = 0", and three lines of its own:
 * "program a + b" writes the PROGRAM anew, "holds a + b" and "mending 2 is a + b" look at all its TOKENS.
 */
public final class MeantTextsEdges {
    private static final List<String> WORDS = Arrays.asList(
        ("( ) + - * < = and not if then else true false a b c d 0 1 2 3 4 5 6 7 8 9").split(" "));
    private static final String[] FAR = {"MIN", "MAX"};
    private static final int ROOM_FOR_SECONDS = 240;

    private static int promise = 0;
    private static int edges = 0;
    private static int wrong = 0;
    private static String edge = "";

    // ---- runs of calls ----

    private static void edge(String name, String run) {
        edges++;
        edge = name;
        int before = wrong;
        MeantTexts x = new MeantTexts();
        try {
            for (String line : run.split(";")) {
                if (!line.isBlank()) {
                    follow(x, line.trim());
                }
            }
        } catch (RuntimeException | StackOverflowError e) {
            say(run, e.toString());
        }
        if (wrong > before) {
            wrong = before + 1;
        }
    }

    private static void say(String line, String what) {
        wrong++;
        System.out.println("promise " + promise + ", " + edge + ": " + line + ": " + what);
    }

    private static void due(String line, int got, int want) {
        if (got != want) {
            say(line, "answered " + got + ", due is " + want);
        }
    }

    private static void follow(MeantTexts x, String line) {
        if (line.startsWith("program")) {
            x.clear();
            for (int token : tokens(line.substring(7))) {
                x.put(token);
            }
        } else if (line.startsWith("holds")) {
            int[] tokens = tokens(line.substring(5));
            due(line, x.token(-1), tokens.length);
            for (int i = 0; i < tokens.length; i++) {
                due(line, x.token(i), tokens[i]);
            }
        } else if (line.contains(" is ")) {
            int i = number(line.split(" ")[1]);
            int[] tokens = tokens(line.substring(line.indexOf(" is ") + 4));
            due(line, x.mending(i, -1), tokens.length);
            for (int k = 0; k < tokens.length; k++) {
                due(line, x.mending(i, k), tokens[k]);
            }
        } else {
            String[] sides = line.split("=");
            int got = call(x, sides[0].trim().split(" +"));
            if (sides.length > 1) {
                due(line, got, number(sides[1].trim()));
            }
        }
    }

    private static int[] tokens(String words) {
        String bare = words.trim();
        if (bare.isEmpty()) {
            return new int[0];
        }
        int[] tokens = Arrays.stream(bare.split(" +")).mapToInt(WORDS::indexOf).toArray();
        if (Arrays.stream(tokens).anyMatch(t -> t < 0)) {
            throw new IllegalStateException("the test has a word that is no TOKEN: " + words);
        }
        return tokens;
    }

    private static int number(String word) {
        return switch (word) {
            case "MIN" -> Integer.MIN_VALUE;
            case "MAX" -> Integer.MAX_VALUE;
            case "NONE" -> -1;
            case "NOTHING" -> -2000000;
            default -> Integer.parseInt(word);
        };
    }

    private static int call(MeantTexts x, String[] words) {
        int[] n = new int[words.length];
        for (int i = 1; i < n.length; i++) {
            n[i] = number(words[i]);
        }
        return switch (words[0] + " " + (n.length - 1)) {
            case "put 1" -> x.put(n[1]);
            case "set 2" -> x.set(n[1], n[2]);
            case "clear 0" -> x.clear();
            case "token 1" -> x.token(n[1]);
            case "kind 2" -> x.kind(n[1], n[2]);
            case "fault 0" -> x.fault();
            case "fits 0" -> x.fits();
            case "value 4" -> x.value(n[1], n[2], n[3], n[4]);
            case "test 5" -> x.test(n[1], n[2], n[3], n[4], n[5]);
            case "drop 1" -> x.drop(n[1]);
            case "keeps 0" -> x.keeps();
            case "mend 2" -> x.mend(n[1], n[2]);
            case "changes 0" -> x.changes();
            case "mending 2" -> x.mending(n[1], n[2]);
            case "rank 1" -> x.rank(n[1]);
            case "apart 2" -> x.apart(n[1], n[2]);
            case "take 1" -> x.take(n[1]);
            case "habit 2" -> x.habit(n[1], n[2]);
            case "forget 0" -> x.forget();
            case "count 1" -> x.count(n[1]);
            case "status 0" -> x.status();
            default -> throw new IllegalStateException("the test has no such call: " + String.join(" ", words));
        };
    }

    // ---- promise 1 ----

    private static void newObject() {
        edge("the PROGRAM is empty", "token -1 = 0; count 0 = 0; token 0 = NONE; clear = 0");
        edge("an empty PROGRAM doesn't READ", "fault = 0; fits = -5; keeps = -6; value 0 0 0 0 = NOTHING");
        edge("no TESTS", "count 1 = 0; drop 0 = -2; program 0; keeps = 0");
        for (int v = 0; v < 4; v++) {
            edge("VARIABLE " + v + " is a whole number", "put " + (14 + v) + "; fits = 0; kind " + v + " 0 = 0");
        }
        edge("no MENDINGS", "count 2 = 0; changes = NONE; mending 0 -1 = NONE; rank 0 = NONE; apart 0 0 = -2; take 0 = -2");
        for (int t = 0; t < 28; t++) {
            edge("no HABIT of TOKEN " + t, "habit " + t + " 0 = 0; habit " + t + " 1 = 0");
        }
        edge("nothing was REFUSED", "status = 0");
        sharesNothing();
    }

    private static void sharesNothing() {
        edges++;
        edge = "two objects share nothing";
        MeantTexts x = new MeantTexts();
        MeantTexts y = new MeantTexts();
        x.kind(0, 1);
        x.test(0, 0, 0, 0, 0);
        x.mend(1, -1);
        x.take(0);
        x.mend(0, 0);
        x.put(28);
        due("y.count(0)", y.count(0), 0);
        due("y.count(1)", y.count(1), 0);
        due("y.count(2)", y.count(2), 0);
        due("y.habit(12, 0)", y.habit(12, 0), 0);
        due("y.status()", y.status(), 0);
        due("y.kind(0, 0)", y.kind(0, 0), 0);
        MeantTexts z = new MeantTexts();
        due("z.count(0)", z.count(0), 0);
        due("z.habit(12, 0)", z.habit(12, 0), 0);
        due("x.habit(12, 0)", x.habit(12, 0), 1);
    }

    // ---- promise 2 ----

    private static final String TEN_OPEN = "program ( ( ( ( ( ( ( ( ( (; ";

    private static void put() {
        edge("the lowest TOKEN", "put 0 = 1; holds (");
        edge("the highest TOKEN", "put 27 = 1; holds 9");
        for (int t = 0; t < 28; t++) {
            edge("TOKEN " + t + " is kept as it is", "put 19; put " + t + " = 2; token 1 = " + t + "; token 0 = 19");
        }
        edge("below the lowest", "put -1 = -1; count 0 = 0; status = -1");
        edge("above the highest", "put 28 = -1; count 0 = 0; status = -1");
        edge("far below", "put MIN = -1; count 0 = 0");
        edge("far above", "put MAX = -1; count 0 = 0");
        edge("the ninth, the tenth", "program a + a + a + a +; put 14 = 9; put 2 = 10; holds a + a + a + a + a +");
        edge("the eleventh has no room", TEN_OPEN + "put 14 = -5; status = -5; holds ( ( ( ( ( ( ( ( ( (");
        edge("a wrong eleventh: -1 is the first", TEN_OPEN + "put 28 = -1; status = -1; put -1 = -1; count 0 = 10");
        edge("a REFUSED one leaves those ahead of it", "program a + b; put 28 = -1; holds a + b; put 14 = 4");
        edge("room again behind clear", TEN_OPEN + "clear = 10; put 14 = 1; holds a");
        edge("room again where one was taken out", TEN_OPEN + "set 0 -1 = 9; put 14 = 10; put 14 = -5; holds ( ( ( ( ( ( ( ( ( a");
    }

    // ---- promise 3 ----

    private static void set() {
        edge("the first place", "program a + b; set 0 17 = 3; holds d + b");
        edge("the last place", "program a + b; set 2 17 = 3; holds a + d");
        edge("the lowest TOKEN", "program a + b; set 1 0 = 3; holds a ( b");
        edge("the highest TOKEN", "program a + b; set 1 27 = 3; holds a 9 b");
        edge("the same TOKEN", "program a + b; set 1 2 = 3; holds a + b; status = 0");
        edge("a place just behind the end", "program a + b; set 3 14 = -2; status = -2; holds a + b");
        edge("taking out just behind the end", "program a + b; set 3 -1 = -2; status = -2; holds a + b");
        edge("a place below 0", "program a + b; set -1 14 = -2; status = -2; set -1 -1 = -2; holds a + b");
        for (String far : FAR) {
            edge("a place far off, " + far, "program a + b; set " + far + " 14 = -2; set " + far + " -1 = -2; holds a + b");
            edge("a TOKEN far off, " + far, "program a + b; set 0 " + far + " = -1; status = -1; holds a + b");
        }
        edge("no place in an empty PROGRAM", "set 0 14 = -2; set 0 -1 = -2; count 0 = 0");
        edge("above the highest TOKEN", "program a + b; set 0 28 = -1; status = -1; holds a + b");
        edge("below NONE", "program a + b; set 0 -2 = -1; status = -1; holds a + b");
        edge("both wrong: -1 is the first", "program a + b; set 3 28 = -1; set -1 -2 = -1; status = -1");
        edge("both wrong in an empty PROGRAM", "set 0 28 = -1; status = -1");
        edge("the first is taken out", "program a + b; set 0 -1 = 2; holds + b; token 2 = NONE; status = 0");
        edge("one between is taken out", "program a + b; set 1 -1 = 2; holds a b; token 2 = NONE");
        edge("the last is taken out", "program a + b; set 2 -1 = 2; holds a +; token 2 = NONE");
        edge("the only one is taken out", "program a; set 0 -1 = 0; count 0 = 0; token 0 = NONE; set 0 -1 = -2");
        edge("the first of ten is taken out", "program ( a ) + ( b ) * c d; set 0 -1 = 9; holds a ) + ( b ) * c d");
        edge("the last of ten is taken out", "program ( a ) + ( b ) * c d; set 9 -1 = 9; holds ( a ) + ( b ) * c");
        edge("a full PROGRAM has room for another one in a place", TEN_OPEN + "set 9 14 = 10; set 0 14 = 10; holds a ( ( ( ( ( ( ( ( a");
        edge("just behind a full PROGRAM", TEN_OPEN + "set 10 14 = -2; set 10 -1 = -2; count 0 = 10");
    }

    // ---- promise 4, 5 ----

    private static void clear() {
        edge("an empty one", "clear = 0; clear = 0");
        edge("one of one TOKEN", "program a; clear = 1; clear = 0");
        edge("a full one", TEN_OPEN + "clear = 10; count 0 = 0; token 0 = NONE; token 9 = NONE; token -1 = 0; fault = 0");
        edge("a REFUSED TOKEN was never there", TEN_OPEN + "put 14; clear = 10");
        edge("TESTS stay", "program a; test 3 0 0 0 3; clear; count 1 = 1; program a; keeps = 1");
        edge("KINDS stay", "kind 1 1; program b; clear; program b; fits = 1; kind 1 1 = 1");
        edge("MENDINGS stay", "program a +; mend 1 0; clear; count 2 = 15; changes = 1; mending 1 is a + a");
        edge("HABITS stay", "mend 1 0; take 0; clear = 1; habit 14 0 = 1");
        edge("what was REFUSED stays", "put 28; clear; status = -1");
    }

    private static void token() {
        edge("how many of none", "token -1 = 0");
        edge("how many of ten", TEN_OPEN + "token -1 = 10");
        edge("the first and the last of three", "program a + b; token 0 = 14; token 2 = 15");
        edge("just behind three", "program a + b; token 3 = NONE");
        edge("the last of ten, and just behind", "program a + a + a + a + a +; token 9 = 2; token 10 = NONE; token 11 = NONE; "
            + "token 12 = NONE");
        edge("below -1", "program a + b; token -2 = NONE");
        for (String far : FAR) {
            edge("far off, " + far, "program a + b; token " + far + " = NONE");
        }
        edge("none in an empty PROGRAM", "token 0 = NONE; token 1 = NONE; token -2 = NONE");
        edge("no REFUSAL", "token 99 = NONE; status = 0");
    }

    // ---- promise 6 ----

    private static void kind() {
        for (int v = 0; v < 4; v++) {
            edge("VARIABLE " + v + " alone becomes a truth", "kind " + v + " 1 = 0" + fitsOfEach(v));
        }
        edge("what it was: a truth, twice", "kind 0 1 = 0; kind 0 1 = 1; status = 0; kind 0 0 = 1; kind 0 0 = 0");
        edge("below the first VARIABLE", "kind -1 1 = -1; status = -1" + fitsOfEach(-1));
        edge("above the last VARIABLE", "kind 4 1 = -1; status = -1" + fitsOfEach(-1));
        edge("a TOKEN is no VARIABLE here", "kind 14 1 = -1" + fitsOfEach(-1));
        edge("below the first KIND", "kind 0 1; kind 0 -1 = -1; status = -1" + fitsOfEach(0));
        edge("above the last KIND", "kind 0 1; kind 0 2 = -1; status = -1" + fitsOfEach(0));
        for (String far : FAR) {
            edge("a VARIABLE far off, " + far, "kind " + far + " 1 = -1" + fitsOfEach(-1));
            edge("a KIND far off, " + far, "kind 3 " + far + " = -1" + fitsOfEach(-1));
        }
        edge("both wrong", "kind 4 2 = -1; status = -1");
    }

    private static String fitsOfEach(int truth) {
        StringBuilder run = new StringBuilder();
        for (int v = 0; v < 4; v++) {
            run.append("; program ").append(WORDS.get(14 + v)).append("; fits = ").append(v == truth ? 1 : 0);
        }
        return run.toString();
    }

    // ---- promise 7 ----

    private static void faultOf(String row, int place) {
        edge("\"" + row + "\"", "program " + row + "; fault = " + place + "; status = 0");
    }

    private static void fault() {
        faultOf("", 0);
        for (int t = 0; t < 28; t++) {
            String word = WORDS.get(t);
            faultOf(word, t >= 12 ? -1 : word.equals("(") || word.equals("not") || word.equals("if") ? 1 : 0);
            faultOf("a " + word, t >= 2 && t <= 7 ? 2 : 1);
        }
        tooShort();
        firstFault();
        comparisons();
        notAndIf();
        closers();
    }

    private static void tooShort() {
        faultOf("( ( ( ( ( ( ( ( ( (", 10);
        faultOf("if if if if if if if if if if", 10);
        faultOf("not not not not not not not not not not", 10);
        faultOf("( if ( if ( if ( if ( if", 10);
        faultOf("a + a - a * a + a <", 10);
        faultOf("( ( ( ( ( a ) ) ) )", 10);
        faultOf("( ( ( ( a ) ) ) )", -1);
        faultOf("not a + a + a + a < a", -1);
        faultOf("if a then b else c", -1);
        faultOf("if a then b else", 5);
        faultOf("if a then b", 4);
        faultOf("if a then", 3);
        faultOf("if a", 2);
        faultOf("( a", 2);
        faultOf("a and", 2);
    }

    private static void firstFault() {
        faultOf(") a", 0);
        faultOf(") )", 0);
        faultOf("a a a", 1);
        faultOf("a ) + b", 1);
        faultOf("( ) a", 1);
        faultOf("a + ) b )", 2);
        faultOf("( ( ( ( a ) ) ) ) )", 9);
        faultOf("a + a + a + a + a a", 9);
        faultOf("( ( ( ( ( ( ( ( ( )", 9);
    }

    private static void comparisons() {
        faultOf("a < b < c", 3);
        faultOf("a < b = c", 3);
        faultOf("a = b < c", 3);
        faultOf("a = b = c", 3);
        faultOf("a < b + c * d = a", 7);
        faultOf("a < b + c - d", -1);
        faultOf("a + b < c", -1);
        faultOf("a < b and c = d", -1);
        faultOf("a < b and c = d = a", 7);
        faultOf("not a < b < c", 4);
        faultOf("( a < b ) < c", -1);
        faultOf("( a < b ) < c < d", 7);
        faultOf("a < ( b < c )", -1);
        faultOf("a < ( b < c ) = d", 7);
        faultOf("a < ( b ) = d", 5);
        faultOf("( a ) < b", -1);
        faultOf("if a < b then c = d", 8);
        faultOf("if a then b < c else d < 1", -1);
        faultOf("if a then b else c < d < 1", 8);
        faultOf("if a < b < c", 4);
        faultOf("a < ( if b then c else d", 9);
        faultOf("a = ( b and c < d ) <", 9);
    }

    private static void notAndIf() {
        for (String sign : "+ - * < =".split(" ")) {
            faultOf("a " + sign + " not", 2);
            faultOf("a " + sign + " if", 2);
        }
        faultOf("a and not", 3);
        faultOf("a and if", 2);
        faultOf("not not a", -1);
        faultOf("not if", 1);
        faultOf("( not", 2);
        faultOf("( if", 2);
        faultOf("if not", 2);
        faultOf("if if", 2);
        faultOf("if a then not", 4);
        faultOf("if a then if", 4);
        faultOf("if a then b else not", 6);
        faultOf("if a then b else if", 6);
        faultOf("a * ( if b then c else d", 9);
        faultOf("not ( if a then b else c )", -1);
    }

    private static void closers() {
        faultOf("( a then", 2);
        faultOf("( a else", 2);
        faultOf("if a )", 2);
        faultOf("if a else", 2);
        faultOf("if a then b )", 4);
        faultOf("if a then b then", 4);
        faultOf("if a then b else c )", 6);
        faultOf("if a then b else c then", 6);
        faultOf("if a then b else c else", 6);
        faultOf("if then", 1);
        faultOf("if a then else", 3);
        faultOf("if ( a then", 3);
        faultOf("if ( a ) then", 5);
        faultOf("( if a )", 3);
        faultOf("( if a then b )", 5);
        faultOf("( if a then b else c )", -1);
        faultOf("( if a then b else c ) )", 8);
        faultOf("( a ) )", 3);
        faultOf("if if a then b else c then", 8);
        faultOf("if if a then b else c else", 7);
        faultOf("if a then if b then c else d else", 10);
        faultOf("if a then if b then c else d then", 9);
        faultOf("if a then b else if c then d else", 10);
    }

    // ---- promise 8 ----

    private static void fitsOf(String row, int due) {
        edge("\"" + row + "\"", "kind 2 1; kind 3 1; program " + row + "; fits = " + due + "; status = 0");
    }

    /** a and b are whole numbers here, c and d truths. */
    private static void fits() {
        fitsOf("", -5);
        fitsOf("a +", -5);
        fitsOf("( a", -5);
        fitsOf("a )", -5);
        fitsOf("c + c +", -5);
        fitsOf("not a a", -5);
        for (String truth : "true false c d".split(" ")) {
            fitsOf(truth, 1);
            fitsOf("( " + truth + " )", 1);
        }
        for (String number : "a b 0 9".split(" ")) {
            fitsOf(number, 0);
            fitsOf("( " + number + " )", 0);
        }
        signs("+", new int[] {0, -6, -6, -6});
        signs("-", new int[] {0, -6, -6, -6});
        signs("*", new int[] {0, -6, -6, -6});
        signs("<", new int[] {1, -6, -6, -6});
        signs("=", new int[] {1, -6, -6, 1});
        signs("and", new int[] {-6, -6, -6, 1});
        fitsOf("not c", 1);
        fitsOf("not a", -6);
        fitsOf("not not c", 1);
        fitsOf("not a < b", 1);
        fitsOf("not c and a", -6);
        fitsOf("not a = b and c", 1);
        fitsOf("c = d and a", -6);
        fitsOf("a + b < a * b", 1);
        fitsOf("a = b + a", 1);
        fitsOf("a < b * a", 1);
        fitsOf("c = d + a", -6);
        fitsOf("c and a = b", 1);
        fitsOf("c and not d and a < b", 1);
        fitsOf("( a < b ) = c", 1);
        fitsOf("( a < b ) = a", -6);
        fitsOf("( a < b ) + a", -6);
        choices();
        edge("a KIND that changes", "program a and b; fits = -6; kind 0 1; fits = -6; kind 1 1; fits = 1; kind 0 0; fits = -6");
        edge("= as KINDS change", "program a = b; fits = 1; kind 0 1; fits = -6; kind 1 1; fits = 1; kind 0 0; fits = -6");
    }

    /** What is due for two whole numbers, a truth on the right, on the left, and two truths. */
    private static void signs(String sign, int[] due) {
        fitsOf("a " + sign + " b", due[0]);
        fitsOf("a " + sign + " c", due[1]);
        fitsOf("c " + sign + " a", due[2]);
        fitsOf("c " + sign + " d", due[3]);
    }

    private static void choices() {
        fitsOf("if c then a else b", 0);
        fitsOf("if c then c else d", 1);
        fitsOf("if c then a else d", -6);
        fitsOf("if c then d else a", -6);
        fitsOf("if a then a else b", -6);
        fitsOf("if a then c else d", -6);
        fitsOf("if 1 then a else b", -6);
        fitsOf("if a < b then a else b", 0);
        fitsOf("if true then a else not a", -6);
        fitsOf("if true then not a else c", -6);
        fitsOf("if c then a else b < a", -6);
        fitsOf("if c then d else a and c", -6);
        fitsOf("if c then a else c and d", -6);
        fitsOf("if c and d then a else b + a", 0);
        fitsOf("if c then d else b < a", 1);
        fitsOf("( if c then a else b ) + 1", 0);
        fitsOf("( if c then d else c ) + 1", -6);
        fitsOf("not a + a + a + a < a", 1);
    }

    // ---- promise 9 ----

    private static void valueOf(String row, String inputs, String due) {
        edge("\"" + row + "\" for " + inputs, "kind 3 1; program " + row + "; value " + inputs + " = " + due + "; status = 0");
    }

    /** d is a truth here. */
    private static void value() {
        valueOf("", "0 0 0 0", "NOTHING");
        valueOf("a +", "0 0 0 0", "NOTHING");
        valueOf("a a", "0 0 0 0", "NOTHING");
        valueOf("a + true", "0 0 0 0", "NOTHING");
        for (int n = 0; n < 10; n++) {
            valueOf("" + n, "77 77 77 77", "" + n);
        }
        valueOf("true", "0 0 0 0", "1");
        valueOf("false", "1 1 1 1", "0");
        valueOf("a", "11 22 33 44", "11");
        valueOf("b", "11 22 33 44", "22");
        valueOf("c", "11 22 33 44", "33");
        edge("VARIABLE 3", "program d; value 11 22 33 44 = 44");
        truths();
        farthest();
        partsThatAreTooFar();
        wrapAround();
        orderOfWork();
    }

    private static void truths() {
        String[] trueOnes = {"1", "2", "-1", "100", "-100", "1000001", "-1000001", "MIN", "MAX"};
        for (String input : trueOnes) {
            valueOf("d", "0 0 0 " + input, "1");
            valueOf("not d", "0 0 0 " + input, "0");
            valueOf("d = true", "0 0 0 " + input, "1");
        }
        valueOf("d", "9 9 9 0", "0");
        valueOf("not d", "9 9 9 0", "1");
        valueOf("d = false", "9 9 9 0", "1");
        valueOf("if d then 7 else 8", "0 0 0 MIN", "7");
        valueOf("if d then 7 else 8", "0 0 0 0", "8");
        edge("two truths by other numbers are alike", "kind 0 1; kind 1 1; program a = b; value 5 -3 0 0 = 1; value 5 0 0 0 = 0");
        edge("and of truths by even numbers", "kind 0 1; kind 1 1; program a and b; value 2 4 0 0 = 1; value 1 2 0 0 = 1; "
            + "value 2 0 0 0 = 0");
    }

    private static void farthest() {
        valueOf("a", "1000000 0 0 0", "1000000");
        valueOf("a", "-1000000 0 0 0", "-1000000");
        valueOf("a", "1000001 0 0 0", "NOTHING");
        valueOf("a", "-1000001 0 0 0", "NOTHING");
        valueOf("a", "-2000000 0 0 0", "NOTHING");
        valueOf("a", "MAX 0 0 0", "NOTHING");
        valueOf("a", "MIN 0 0 0", "NOTHING");
        valueOf("3", "MAX MIN MAX MIN", "3");
        valueOf("a", "3 MIN MAX MIN", "3");
        valueOf("a + b", "999999 1 0 0", "1000000");
        valueOf("a + b", "1000000 1 0 0", "NOTHING");
        valueOf("a + b", "-999999 -1 0 0", "-1000000");
        valueOf("a + b", "-1000000 -1 0 0", "NOTHING");
        valueOf("a - b", "999999 -1 0 0", "1000000");
        valueOf("a - b", "1000000 -1 0 0", "NOTHING");
        valueOf("a - b", "-999999 1 0 0", "-1000000");
        valueOf("a - b", "-1000000 1 0 0", "NOTHING");
        valueOf("a - b", "1000000 1000000 0 0", "0");
        valueOf("a + b", "-1000000 -1000000 0 0", "NOTHING");
        valueOf("a * b", "1000 1000 0 0", "1000000");
        valueOf("a * b", "1000 -1000 0 0", "-1000000");
        valueOf("a * b", "-1000 -1000 0 0", "1000000");
        valueOf("a * b", "1000000 -1 0 0", "-1000000");
        valueOf("a * b", "101 9901 0 0", "NOTHING");
        valueOf("a * b", "-101 9901 0 0", "NOTHING");
        valueOf("a * a", "1001 0 0 0", "NOTHING");
    }

    private static void partsThatAreTooFar() {
        valueOf("a * a - a * a", "1001 0 0 0", "NOTHING");
        valueOf("a * a - a * a", "1000 0 0 0", "0");
        valueOf("a + 1 - 1", "1000000 0 0 0", "NOTHING");
        valueOf("a + ( 1 - 1 )", "1000000 0 0 0", "1000000");
        valueOf("0 * ( a + 1 )", "1000000 0 0 0", "NOTHING");
        valueOf("( a - 1 ) * 0", "-1000000 0 0 0", "NOTHING");
        valueOf("a * 0", "1000001 0 0 0", "NOTHING");
        valueOf("a - a", "-1000001 0 0 0", "NOTHING");
        valueOf("if true then 1 else a * a", "1001 0 0 0", "NOTHING");
        valueOf("if true then 1 else a * a", "1000 0 0 0", "1");
        valueOf("if false then a * a else 1", "1001 0 0 0", "NOTHING");
        valueOf("if false then a * a else 1", "1000 0 0 0", "1");
        valueOf("if a * a < 1 then 2 else 3", "1001 0 0 0", "NOTHING");
        valueOf("if a * a < 1 then 2 else 3", "1000 0 0 0", "3");
        valueOf("if true then 1 else a", "1000001 0 0 0", "NOTHING");
        valueOf("false and a * a < 1", "1001 0 0 0", "NOTHING");
        valueOf("false and a * a < 1", "1000 0 0 0", "0");
        valueOf("a * a < 1 and false", "1001 0 0 0", "NOTHING");
        valueOf("not a * a < 1", "1001 0 0 0", "NOTHING");
        valueOf("a * a < b", "1001 0 0 0", "NOTHING");
        valueOf("b < a * a", "1001 0 0 0", "NOTHING");
        valueOf("a * a = a * a", "1001 0 0 0", "NOTHING");
        valueOf("a * a = a * a", "1000 0 0 0", "1");
        valueOf("a < b", "1000001 0 0 0", "NOTHING");
        valueOf("a < b", "0 -1000001 0 0", "NOTHING");
        valueOf("a < b", "-1000000 1000000 0 0", "1");
    }

    private static void wrapAround() {
        valueOf("a * a", "65536 0 0 0", "NOTHING");
        valueOf("a * a", "-65536 0 0 0", "NOTHING");
        valueOf("a * b", "65536 -65536 0 0", "NOTHING");
        valueOf("a * a", "92682 0 0 0", "NOTHING");
        valueOf("a * a", "46341 0 0 0", "NOTHING");
        valueOf("a * b", "524288 8192 0 0", "NOTHING");
        valueOf("a * a", "1000000 0 0 0", "NOTHING");
        valueOf("a * a * a * a", "65536 0 0 0", "NOTHING");
        valueOf("a + a", "MAX 0 0 0", "NOTHING");
        valueOf("a + a", "MIN 0 0 0", "NOTHING");
        valueOf("a - b", "MIN MAX 0 0", "NOTHING");
        valueOf("a + b", "MIN MAX 0 0", "NOTHING");
        valueOf("0 - a", "MIN 0 0 0", "NOTHING");
        valueOf("a < b", "MIN MAX 0 0", "NOTHING");
        valueOf("a = a", "MIN 0 0 0", "NOTHING");
    }

    private static void orderOfWork() {
        valueOf("a - b - c", "10 3 2 0", "5");
        valueOf("a - ( b - c )", "10 3 2 0", "9");
        valueOf("a - b * c", "10 3 2 0", "4");
        valueOf("( a - b ) * c", "10 3 2 0", "14");
        valueOf("a * b - c", "10 3 2 0", "28");
        valueOf("a < b", "-1 0 0 0", "1");
        valueOf("a < b", "0 0 0 0", "0");
        valueOf("a < b", "0 -1 0 0", "0");
        valueOf("a = b", "-5 -5 0 0", "1");
        valueOf("a = b", "-5 5 0 0", "0");
        valueOf("a + 1 = b", "-5 -4 0 0", "1");
        valueOf("b = a + 1", "-5 -4 0 0", "1");
        valueOf("a < b + c", "4 2 3 0", "1");
        valueOf("a < b - c", "4 5 1 0", "0");
        valueOf("a = b * c", "6 2 3 0", "1");
        valueOf("a - b = c - a", "4 2 6 0", "1");
        valueOf("true and true", "0 0 0 0", "1");
        valueOf("true and false", "0 0 0 0", "0");
        valueOf("false and true", "0 0 0 0", "0");
        valueOf("false and false", "0 0 0 0", "0");
        valueOf("not false and false", "0 0 0 0", "0");
        valueOf("not ( false and false )", "0 0 0 0", "1");
        valueOf("not not true", "0 0 0 0", "1");
        valueOf("not a = b", "1 1 0 0", "0");
        valueOf("if true then a else b + c", "10 3 2 0", "10");
        valueOf("if false then a else b + c", "10 3 2 0", "5");
        valueOf("if d then false else d = d", "0 0 0 0", "1");
        valueOf("if true then true else true and false", "0 0 0 0", "1");
        valueOf("if false then true else true and false", "0 0 0 0", "0");
        valueOf("if true then false else not false", "0 0 0 0", "0");
        valueOf("if a < b then a else b", "3 2 0 0", "2");
        valueOf("if true and false then a else b", "3 2 0 0", "2");
        valueOf("true and not false and true", "0 0 0 0", "1");
        valueOf("true and not false and false", "0 0 0 0", "0");
    }

    // ---- promise 10 ----

    private static final String EIGHT_TESTS =
        "test 0 0 0 0 0; test 1 0 0 0 1; test 2 0 0 0 2; test 3 0 0 0 3; "
        + "test 4 0 0 0 4; test 5 0 0 0 5; test 6 0 0 0 6; test 7 0 0 0 7; ";

    private static void test() {
        edge("the first, the second", "test 1 2 3 4 5 = 0; test 1 2 3 4 5 = 1; count 1 = 2; status = 0");
        edge("the eighth, and no room for a ninth", EIGHT_TESTS.replace("test 7 0 0 0 7; ", "")
            + "test 7 0 0 0 7 = 7; test 8 0 0 0 8 = -5; status = -5; count 1 = 8; program a; keeps = 8; program 8; keeps = 0");
        edge("a wrong ninth: -1 is the first", EIGHT_TESTS + "test 101 0 0 0 0 = -1; status = -1; test 0 0 0 0 1000001 = -1; count 1 = 8");
        for (int v = 0; v < 4; v++) {
            String word = WORDS.get(14 + v);
            edge("input " + word + " at its highest", testWith(v, "100", "100", "0") + "program " + word + "; keeps = 1");
            edge("input " + word + " at its lowest", testWith(v, "-100", "-100", "0") + "program " + word + "; keeps = 1");
            edge("input " + word + " above", testWith(v, "101", "0", "-1") + "status = -1; count 1 = 0");
            edge("input " + word + " below", testWith(v, "-101", "0", "-1") + "status = -1; count 1 = 0");
            for (String far : FAR) {
                edge("input " + word + " far off, " + far, testWith(v, far, "0", "-1") + "status = -1; count 1 = 0");
            }
            edge("input " + word + " of a truth, above", "kind " + v + " 1; " + testWith(v, "101", "0", "-1") + "count 1 = 0");
        }
        edge("wanted at its highest", "test 100 0 0 0 1000000 = 0; program a * a * a; keeps = 1");
        edge("wanted at its lowest", "test -100 0 0 0 -1000000 = 0; program a * a * a; keeps = 1");
        edge("wanted above", "test 0 0 0 0 1000001 = -1; status = -1; count 1 = 0");
        edge("wanted below", "test 0 0 0 0 -1000001 = -1; status = -1; count 1 = 0");
        edge("wanted what stands for no VALUE", "test 0 0 0 0 NOTHING = -1; count 1 = 0");
        for (String far : FAR) {
            edge("wanted far off, " + far, "test 0 0 0 0 " + far + " = -1; status = -1; count 1 = 0");
        }
        edge("all inputs at their edges at once", "test 100 -100 100 -100 5 = 0; program a + b + c + d + 5; keeps = 1");
        edge("the same TEST twice", "test 1 0 0 0 1 = 0; test 1 0 0 0 1 = 1; program a; keeps = 2");
        edge("a number again where one was dropped", "test 1 0 0 0 1 = 0; test 2 0 0 0 2 = 1; drop 0 = 1; test 3 0 0 0 3 = 1");
        edge("room again where one of eight was dropped", EIGHT_TESTS + "drop 3 = 7; test 9 0 0 0 9 = 7; test 9 0 0 0 9 = -5; "
            + "program 9; keeps = 1");
    }

    private static String testWith(int place, String input, String wanted, String due) {
        String[] inputs = {"0", "0", "0", "0"};
        inputs[place] = input;
        return "test " + String.join(" ", inputs) + " " + wanted + " = " + due + "; ";
    }

    // ---- promise 11 ----

    /** The TESTS of EIGHT_TESTS that are left, told by the numbers that they want. */
    private static String left(int... wanted) {
        StringBuilder run = new StringBuilder("count 1 = " + wanted.length + "; ");
        for (int n = 0; n < 8; n++) {
            int want = n;
            long kept = Arrays.stream(wanted).filter(w -> w == want).count();
            run.append("program ").append(n).append("; keeps = ").append(kept).append("; ");
        }
        return run + "program a; keeps = " + wanted.length + "; ";
    }

    private static void drop() {
        edge("of none", "drop 0 = -2; status = -2; drop -1 = -2; count 1 = 0");
        edge("the only one", "test 1 2 3 4 5; drop 0 = 0; status = 0; count 1 = 0; drop 0 = -2");
        edge("the first of eight", EIGHT_TESTS + "drop 0 = 7; " + left(1, 2, 3, 4, 5, 6, 7));
        edge("one between", EIGHT_TESTS + "drop 3 = 7; " + left(0, 1, 2, 4, 5, 6, 7));
        edge("the last of eight", EIGHT_TESTS + "drop 7 = 7; " + left(0, 1, 2, 3, 4, 5, 6));
        edge("just behind eight", EIGHT_TESTS + "drop 8 = -2; status = -2; " + left(0, 1, 2, 3, 4, 5, 6, 7));
        edge("just behind, where one was dropped", EIGHT_TESTS + "drop 0 = 7; drop 7 = -2; " + left(1, 2, 3, 4, 5, 6, 7));
        edge("below 0", EIGHT_TESTS + "drop -1 = -2; status = -2; " + left(0, 1, 2, 3, 4, 5, 6, 7));
        for (String far : FAR) {
            edge("far off, " + far, EIGHT_TESTS + "drop " + far + " = -2; status = -2; " + left(0, 1, 2, 3, 4, 5, 6, 7));
        }
        edge("later ones are one lower", EIGHT_TESTS + "drop 2 = 7; drop 2 = 6; drop 2 = 5; " + left(0, 1, 5, 6, 7));
        edge("earlier ones keep their numbers", EIGHT_TESTS + "drop 5 = 7; drop 1 = 6; drop 0 = 5; " + left(2, 3, 4, 6, 7));
        edge("a new one is the last", EIGHT_TESTS + "drop 0; test 0 0 0 0 0 = 7; drop 0 = 7; drop 6 = 6; " + left(2, 3, 4, 5, 6, 7));
        edge("all of eight", EIGHT_TESTS + "drop 0 = 7; drop 0 = 6; drop 0 = 5; drop 0 = 4; drop 0 = 3; drop 0 = 2; "
            + "drop 0 = 1; drop 0 = 0; drop 0 = -2");
        edge("all five numbers of later ones come along",
            "test 0 0 0 0 9; test 1 2 3 4 5; drop 0; program a + 4; keeps = 1; program b + 3; keeps = 1; "
            + "program c + 2; keeps = 1; program d + 1; keeps = 1; program 5; keeps = 1");
    }

    // ---- promise 12 ----

    private static void keeps() {
        edge("no TESTS", "program a; keeps = 0; status = 0");
        edge("all eight", EIGHT_TESTS + "program a; keeps = 8");
        edge("none of eight", EIGHT_TESTS + "program a + 8; keeps = 0");
        edge("the first alone", EIGHT_TESTS + "program 0; keeps = 1");
        edge("the last alone", EIGHT_TESTS + "program 7; keeps = 1");
        edge("an empty PROGRAM", "keeps = -6; test 0 0 0 0 0; keeps = -6; status = 0");
        edge("one that doesn't READ", "program a +; keeps = -6; test 0 0 0 0 0; keeps = -6");
        edge("one that READS and doesn't FIT", "program a + true; keeps = -6; test 0 0 0 0 0; keeps = -6");
        edge("no VALUE isn't kept", "test 100 0 0 0 0; test 1 0 0 0 1; program a * a * a * a; keeps = 1");
        edge("a VALUE just within is kept", "test 100 0 0 0 1000000; test -100 0 0 0 -1000000; program a * a * a; keeps = 2");
        edge("a truth is 0 or 1", "test 0 0 0 0 1; test 0 0 0 0 0; test 0 0 0 0 2; test 0 0 0 0 -1; program true; keeps = 1; "
            + "program false; keeps = 1");
        for (String input : "1 2 -1 100 -100".split(" ")) {
            edge("an input of a truth, " + input, "kind 1 1; test 0 " + input + " 0 0 1; test 0 " + input + " 0 0 0; "
                + "program b; keeps = 1; program not b; keeps = 1; drop 1; program b; keeps = 1");
        }
        edge("an input of a truth, 0", "kind 1 1; test 0 0 0 0 0; program b; keeps = 1; program not b; keeps = 0");
        edge("a KIND that changes behind the TEST", "test 0 5 0 0 5; test 0 5 0 0 1; program b; keeps = 1; kind 1 1; "
            + "keeps = 1; drop 0; keeps = 1; kind 1 0; keeps = 0");
    }

    // ---- promise 13 ----

    /** Twelve whole numbers each: "x - y", "x + y", and one alone: 144 + 144 + 12. */
    private static final String JUST_300 = "kind 0 1; kind 1 1; program - +; ";
    /** Found by trying, and counted by the plain program of MeantTextsOracle too. */
    private static final String JUST_301 = "kind 1 1; kind 2 1; test 3 1 2 0 0; test 2 0 0 1 0; program * + < 3 - 4; ";
    /** 512 at least: "x + y", "x * y" of sixteen each. */
    private static final String TOO_MANY = "program + *; ";
    private static final String NOT_BY_TWO = "program ) ) ) ); ";
    private static final String NO_LATEST = "count 2 = 0; changes = NONE; mending 0 -1 = NONE; mending 0 0 = NONE; "
        + "rank 0 = NONE; apart 0 0 = -2; take 0 = -2";

    private static void mend() {
        wrongGoals();
        wrongKinds();
        noChange();
        oneChange();
        twoChanges();
        howMany();
        kindsWanted();
        passing();
        keptAsTheLatest();
        order();
    }

    private static void wrongGoals() {
        edge("the lowest GOAL", "program a +; mend 0 -1 = 17; status = 0");
        edge("the highest GOAL", "program a +; mend 2 -1 = 15; status = 0");
        for (String goal : "-1 3 MIN MAX".split(" ")) {
            edge("GOAL " + goal, "program a; mend " + goal + " 0 = -1; status = -1; count 2 = 0");
            edge("GOAL " + goal + " leaves the latest", "program a +; mend 0 0 = 17; mend " + goal + " 0 = -1; count 2 = 17; "
                + "changes = 1; mending 0 is a");
        }
        edge("a wrong GOAL ahead of too many", TOO_MANY + "mend 3 0 = -1; status = -1");
        edge("a wrong GOAL ahead of none", NOT_BY_TWO + "mend 3 0 = -1; mend -1 0 = -1; status = -1");
    }

    private static void wrongKinds() {
        for (String kind : "-2 2 MIN MAX".split(" ")) {
            for (int goal = 1; goal <= 2; goal++) {
                edge("KIND " + kind + " for GOAL " + goal, "program a; mend " + goal + " " + kind + " = -1; status = -1; count 2 = 0");
            }
            edge("KIND " + kind + " leaves the latest", "program a +; mend 1 1 = 32; mend 1 " + kind + " = -1; count 2 = 32; changes = 2");
            edge("KIND " + kind + " isn't looked at for GOAL 0", "program a +; mend 0 " + kind + " = 17; status = 0; changes = 1");
            edge("KIND " + kind + " ahead of none", NOT_BY_TWO + "mend 1 " + kind + " = -1; mend 2 " + kind + " = -1");
        }
        edge("a KIND wanted isn't looked at for GOAL 0", "program a; mend 0 1 = 1; changes = 0; mending 0 is a");
        edge("a KIND wanted isn't looked at for GOAL 0, the other", "program true; mend 0 0 = 1; changes = 0; mending 0 is true");
    }

    private static void noChange() {
        edge("it READS", "program a + true; mend 0 -1 = 1; changes = 0; mending 0 is a + true; rank 0 = 0");
        edge("it FITS", "program a + b; mend 1 -1 = 1; changes = 0; mending 0 is a + b");
        edge("it PASSES", "program a + b; test 1 2 0 0 3; mend 2 -1 = 1; changes = 0; mending 0 is a + b");
        edge("it FITS, of the KIND wanted", "program a + b; mend 1 0 = 1; changes = 0");
        edge("ten that READ", "program not a + a + a + a < a; mend 0 -1 = 1; changes = 0; mending 0 is not a + a + a + a < a");
        edge("it READS and doesn't FIT", "program a + true; mend 1 -1; changes = 1");
        edge("it FITS and doesn't PASS", "program a + b; test 1 2 0 0 2; mend 2 -1; changes = 1");
        edge("the PROGRAM stays", "program a +; mend 0 -1 = 17; holds a +; count 1 = 0; habit 14 0 = 0; habit 2 1 = 0");
    }

    private static void oneChange() {
        edge("out of an empty PROGRAM", "mend 0 -1 = 16; changes = 1; mending 0 is true; mending 15 is 9; mending 16 -1 = NONE");
        edge("put in ahead, taken out behind", "program a ); mend 0 -1 = 2; changes = 1; mending 0 is a; mending 1 is ( a )");
        edge("put in behind, taken out ahead", "program ( a; mend 0 -1 = 3; changes = 1; mending 0 is a; mending 1 is not a; "
            + "mending 2 is ( a )");
        edge("put in and taken out between", "program a + + b; mend 0 -1 = 17; changes = 1; mending 0 is a + b; "
            + "mending 1 is a + true + b; mending 16 is a + 9 + b");
        edge("another one ahead", "program ) a ); mend 0 -1 = 1; changes = 1; mending 0 is ( a )");
        edge("another one behind", "program ( a (; mend 0 -1 = 1; changes = 1; mending 0 is ( a )");
        edge("another one between", "program ( ) ); mend 0 -1 = 16; changes = 1; mending 0 is ( true ); mending 15 is ( 9 )");
        edge("none twice", "program a a; mend 0 -1 = 8; mending 0 is a; mending 1 is not a; mending 2 is a + a; mending 7 is a and a");
        edge("eleven out of ten", "program ( ( a + b + c + d ); mend 0 -1 = 7; changes = 1; "
            + "mending 6 is ( ( a + b + c + d ) ); mending 2 is not ( a + b + c + d ); mending 0 -1 = 9");
        edge("nine out of ten", "program ( ( ( ( a ) ) ) ) ); mend 0 -1 = 2; changes = 1; mending 0 is ( ( ( ( a ) ) ) ); "
            + "mending 1 is ( ( ( ( ( a ) ) ) ) )");
        edge("the last of ten is another one", "program ( ( not a + b + c ) (; mend 0 -1 = 1; changes = 1; "
            + "mending 0 is ( ( not a + b + c ) )");
    }

    private static void twoChanges() {
        edge("two taken out ahead", "program ) ) a < b; mend 1 -1; changes = 2; mending 0 is a < b; mending 1 is not a < b; "
            + "mending 2 is not not a < b");
        edge("two taken out behind", "program a < b ) ); mend 1 -1; changes = 2; mending 0 is a < b");
        edge("two put in behind: twelve out of ten", "program ( ( not a + b + c + d; mend 0 -1 = 44; changes = 2; "
            + "mending 43 is ( ( not a + b + c + d ) ); mending 43 12 = NONE");
        edge("two put in ahead: twelve out of ten", "program a ) and not b ) and c + d; mend 0 -1 = 30; changes = 2; "
            + "mending 0 is a and not b and c + d; "
            + "mending 27 is ( ( a ) and not b ) and c + d; mending 29 is ( a ) and not ( b ) and c + d; mending 26 -1 = 11");
        edge("others in two places", "program ) a (; mend 0 -1 = 3; changes = 2; mending 0 is a; mending 1 is not a; mending 2 is ( a )");
        edge("the first and the last of ten", "program ) ( not a + b + c ) (; mend 0 -1 = 3; changes = 2; "
            + "mending 0 is ( not a + b + c ); mending 2 is ( ( not a + b + c ) )");
        edge("not by two", NOT_BY_TWO + "mend 0 -1 = -6; status = -6");
        edge("not by two, ten long", "program ) ) ) ) ) ) ) ) ) ); mend 0 -1 = -6; mend 1 0 = -6; mend 2 1 = -6; status = -6");
        edge("three brackets short", "program ( ( ( a + b + c + d; mend 0 -1 = -6");
        edge("not by two, none are the latest", "program a +; mend 0 -1 = 17; " + NOT_BY_TWO + "mend 0 -1 = -6; " + NO_LATEST);
        edge("not by two, though it READS", "program a + b + c + d; mend 0 -1 = 1; mend 1 0 = 1; test 0 0 0 0 50; "
            + "mend 2 -1 = -6; count 2 = 0");
    }

    private static void howMany() {
        edge("just 300", JUST_300 + "mend 1 0 = 300; status = 0; count 2 = 300; changes = 2; mending 0 is c; "
            + "mending 299 is 9 - 9; mending 299 3 = NONE; mending 300 -1 = NONE; mending 300 0 = NONE; rank 299 = 0; rank 300 = NONE");
        edge("301", JUST_301 + "mend 2 -1 = -5; status = -5; " + NO_LATEST);
        edge("many more", TOO_MANY + "mend 0 -1 = -5; status = -5; " + NO_LATEST);
        edge("too many, where others were the latest", "program a +; mend 0 -1 = 17; " + TOO_MANY + "mend 0 -1 = -5; " + NO_LATEST);
        edge("too many, then just 300 again", TOO_MANY + "mend 0 -1 = -5; " + JUST_300 + "mend 1 0 = 300; mend 1 0 = 300; "
            + "mending 299 is 9 - 9");
        edge("too many, then none", TOO_MANY + "mend 0 -1 = -5; " + NOT_BY_TWO + "mend 0 -1 = -6; " + NO_LATEST);
        edge("none, then one", NOT_BY_TWO + "mend 0 -1 = -6; program a; mend 0 -1 = 1; changes = 0; status = 0");
        edge("300, then one", JUST_300 + "mend 1 0 = 300; program c; mend 1 0 = 1; changes = 0; mending 0 is c; mending 1 -1 = NONE");
    }

    private static void kindsWanted() {
        edge("a whole number out of nothing", "mend 1 0 = 14; changes = 1; mending 0 is a; mending 13 is 9");
        edge("a truth out of nothing", "mend 1 1 = 2; changes = 1; mending 0 is true; mending 1 is false");
        edge("either out of nothing", "mend 1 -1 = 16; mending 0 is true; mending 15 is 9");
        edge("a truth, where all VARIABLES are", "kind 0 1; kind 1 1; kind 2 1; kind 3 1; mend 1 1 = 6; mending 5 is d; "
            + "mend 1 0 = 10; mending 0 is 0");
        edge("the other KIND than it has", "program a; mend 1 1 = 2; changes = 1; mending 0 is true; mending 1 is false");
        edge("the other KIND than it has, of a truth", "program true; mend 1 0 = 14; changes = 1; mending 0 is a");
        edge("if asks for a truth", "program if a then b else c; mend 1 0 = 2; changes = 1; "
            + "mending 0 is if true then b else c; mending 1 is if false then b else c");
    }

    private static void passing() {
        edge("no TESTS: it is enough to FIT", "program a + true; mend 1 -1 = 14; mend 2 -1 = 14; changes = 1");
        edge("seven of eight kept aren't enough", "test 0 0 0 0 0; test 1 1 0 0 1; test 2 2 0 0 2; test 3 3 0 0 3; test 4 4 0 0 4; "
            + "test 5 5 0 0 5; test 6 6 0 0 6; test 7 8 0 0 8; program a; keeps = 7; mend 2 0 = 1; changes = 1; mending 0 is b");
        edge("the first of eight isn't kept", "test 0 1 0 0 1; test 1 1 0 0 1; test 2 2 0 0 2; test 3 3 0 0 3; test 4 4 0 0 4; "
            + "test 5 5 0 0 5; test 6 6 0 0 6; test 7 7 0 0 7; program a; keeps = 7; mend 2 0 = 1; changes = 1; mending 0 is b");
        edge("a truth or a whole number", "test 0 0 0 0 1; program 2; mend 2 -1 = 2; mending 0 is true; mending 1 is 1");
        edge("a whole number alone", "test 0 0 0 0 1; program 2; mend 2 0 = 1; mending 0 is 1");
        edge("a truth alone", "test 0 0 0 0 1; program 2; mend 2 1 = 1; mending 0 is true");
        edge("it PASSES, of the other KIND", "test 0 0 0 0 1; program 1; mend 2 1 = 1; changes = 1; mending 0 is true");
        edge("by one CHANGE", "test 3 4 0 0 7; test 5 1 0 0 6; program a - b; mend 2 -1 = 1; changes = 1; mending 0 is a + b");
        edge("by two CHANGES", "test 3 4 0 0 7; test 5 1 0 0 6; program a; mend 2 -1 = 2; changes = 2; mending 0 is a + b; "
            + "mending 1 is b + a");
        edge("one that has no VALUE doesn't PASS", "test 100 0 0 0 0; program a * a * a * a; mend 1 0 = 1; mend 2 0; "
            + "changes = 1; mending 0 is a * a - a * a");
        edge("a truth that isn't wanted as 0 or 1", "test 0 0 0 0 2; program true; mend 2 1 = -6; status = -6");
    }

    private static void keptAsTheLatest() {
        String fifteen = "program a +; mend 1 0 = 15; ";
        String still = "count 2 = 15; changes = 1; mending 0 is a; mending 14 is a + 9; rank 14 = 0";
        edge("though the PROGRAM changes", fifteen + "put 14; set 0 0; clear; program ) ); " + still);
        edge("though KINDS change", fifteen + "kind 0 1; kind 1 1; kind 2 1; kind 3 1; " + still);
        edge("though TESTS change", fifteen + EIGHT_TESTS + "drop 0; " + still);
        edge("though HABITS are forgotten", fifteen + "forget; " + still);
        edge("though calls are REFUSED", fifteen + "put 28; set 9 9; kind 9 9; test 999 0 0 0 0; drop 9; take 15; mend 9 9; " + still);
        edge("until others are made", fifteen + "program b; mend 1 0 = 1; changes = 0; mending 0 is b; mending 1 -1 = NONE");
    }

    private static void order() {
        edge("of alike RANK the shorter", "program a +; mend 0 -1; mending 0 is a; mending 1 is a + true");
        edge("of alike length the lower, in the first place", "mend 1 -1; mending 0 is true; mending 1 is false; mending 2 is a");
        edge("of alike length the lower, in the last place", "program a +; mend 0 -1; mending 2 is a + false; "
            + "mending 3 is a + a; mending 16 is a + 9");
        edge("an earlier place counts more", "program a +; mend 1 1; mending 0 is true; mending 2 is not true; "
            + "mending 4 is a < a; mending 17 is a < 9; mending 18 is a = a");
        edge("the greater RANK, though it is longer",
            "program a b; mend 1 0; mending 2 is a + b; take 2 = 3; program c d; mend 1 0 = 5; "
            + "mending 0 is c + d; rank 0 = 1; mending 1 is c; rank 1 = 0; mending 2 is d; mending 3 is c - d; mending 4 is c * d");
        edge("the greater RANK, though it is higher",
            "mend 1 0; mending 13 is 9; take 13 = 1; clear; mend 1 0 = 14; mending 0 is 9; rank 0 = 1; mending 1 is a; "
                + "mending 13 is 8; rank 13 = 0");
    }

    // ---- promise 14 to 16 ----

    private static void changes() {
        edge("ahead of any", "changes = NONE");
        edge("none", "program a; mend 0 -1; changes = 0");
        edge("one", "mend 0 -1; changes = 1");
        edge("two", "program a +; mend 1 1; changes = 2");
        edge("behind too many", "program a; mend 0 -1; " + TOO_MANY + "mend 0 -1; changes = NONE");
        edge("behind none by two", "program a; mend 0 -1; " + NOT_BY_TWO + "mend 0 -1; changes = NONE");
        edge("behind a number that can't be", "program a +; mend 1 1; mend 3 0; mend 1 2; changes = 2");
        edge("behind a taken one", "mend 0 -1; take 0; changes = NONE");
        edge("behind one that wasn't taken", "mend 0 -1; take 16; changes = 1");
        edge("behind one that was too long", "program ( ( a + b + c + d ); mend 0 -1; take 6 = -5; changes = 1");
        edge("no REFUSAL", "changes = NONE; status = 0");
    }

    private static void mending() {
        String two = "program a ); mend 0 -1 = 2; ";
        edge("without any", "mending 0 -1 = NONE; mending 0 0 = NONE; mending -1 -1 = NONE");
        edge("the first and the last", two + "mending 0 -1 = 1; mending 0 0 = 14; mending 1 -1 = 3; mending 1 0 = 0; "
            + "mending 1 1 = 14; mending 1 2 = 1");
        edge("behind the last MENDING", two + "mending 2 -1 = NONE; mending 2 0 = NONE");
        edge("below the first MENDING", two + "mending -1 -1 = NONE; mending -1 0 = NONE; mending -2 0 = NONE");
        edge("behind the last TOKEN", two + "mending 0 1 = NONE; mending 1 3 = NONE");
        edge("below -1", two + "mending 0 -2 = NONE; mending 1 -2 = NONE; mending 1 -3 = NONE");
        for (String far : FAR) {
            edge("a MENDING far off, " + far, two + "mending " + far + " -1 = NONE; mending " + far + " 0 = NONE");
            edge("a TOKEN far off, " + far, two + "mending 0 " + far + " = NONE; mending 1 " + far + " = NONE");
        }
        for (int k = 3; k < 70; k++) {
            edge("TOKEN " + k + " of three", two + "mending 1 " + k + " = NONE");
        }
        edge("the last TOKEN of twelve", "program ( ( not a + b + c + d; mend 0 -1 = 44; mending 43 -1 = 12; "
            + "mending 43 11 = 1; mending 43 0 = 0; mending 43 12 = NONE; mending 43 13 = NONE");
        edge("the last of 300", JUST_300 + "mend 1 0; mending 299 -1 = 3; mending 299 0 = 27; mending 300 -1 = NONE; mending 300 0 = NONE");
        edge("each TOKEN at its own place", "kind 0 1; program if a then 9 else ( 0 ) + b; mend 0 0 = 1; "
            + "mending 0 is if a then 9 else ( 0 ) + b");
        edge("behind a taken one", two + "take 0; mending 0 -1 = NONE; mending 0 0 = NONE");
        edge("no REFUSAL", two + "mending 9 9 = NONE; status = 0");
    }

    /** VARIABLE a is gained once. */
    private static final String GAINED_A = "mend 1 0; mending 0 is a; take 0 = 1; ";
    /** VARIABLE b is lost once. */
    private static final String LOST_B = "program a b; mend 1 0; mending 0 is a; take 0 = 1; ";

    private static void rank() {
        edge("without any", "rank 0 = NONE; rank -1 = NONE");
        edge("without HABITS", "program a ); mend 0 -1 = 2; rank 0 = 0; rank 1 = 0");
        edge("behind the last", "program a ); mend 0 -1 = 2; rank 2 = NONE");
        edge("below the first", "program a ); mend 0 -1 = 2; rank -1 = NONE; rank -2 = NONE");
        for (String far : FAR) {
            edge("far off, " + far, "program a ); mend 0 -1 = 2; rank " + far + " = NONE");
        }
        edge("the last of 300", JUST_300 + "mend 1 0; rank 299 = 0; rank 300 = NONE");
        edge("one more of what was gained once", GAINED_A + "clear; mend 1 0; mending 0 is a; rank 0 = 1; rank 1 = 0");
        edge("one more of what was gained twice", GAINED_A + "clear; " + GAINED_A + "clear; mend 1 0; mending 0 is a; "
            + "rank 0 = 2; rank 1 = 0");
        edge("two more of what was gained once", GAINED_A + "test 7 0 0 0 14; program +; mend 2 0 = 8; changes = 2; "
            + "mending 0 is a + a; rank 0 = 2; mending 1 is a + 7; rank 1 = 1; mending 2 is 7 + a; rank 2 = 1; "
            + "mending 3 is 5 + 9; rank 3 = 0");
        edge("as many of what was gained", GAINED_A + "program a a; mend 1 0 = 4; mending 0 is a; rank 0 = 0; rank 1 = 0");
        edge("fewer of what was gained, never lost", GAINED_A + "program a c; mend 1 0 = 5; mending 0 is a; rank 0 = 0; "
            + "mending 1 is c; rank 1 = 0");
        edge("one fewer of what was lost once", LOST_B + "program b c; mend 1 0 = 5; mending 0 is c; rank 0 = 1; "
            + "mending 1 is b; rank 1 = 0; rank 4 = 0");
        edge("two fewer of what was lost once", LOST_B + "test 0 2 50 0 50; program b b c; mend 2 0 = 6; changes = 2; "
            + "mending 0 is c; rank 0 = 2; mending 1 is a + c; rank 1 = 2; mending 4 is 1 * c; rank 4 = 2; "
            + "mending 5 is b - b + c; rank 5 = 0");
        edge("more of what was lost, never gained", LOST_B + "clear; mend 1 0 = 14; mending 0 is a; rank 0 = 0; "
            + "mending 1 is b; rank 1 = 0");
        edge("the sum of both", GAINED_A + LOST_B + "program b; test 5 6 0 0 5; mend 2 0 = 2; mending 0 is a; rank 0 = 2; "
            + "mending 1 is 5; rank 1 = 1");
        edge("the lowest and the highest TOKEN", "program a ); mend 0 -1; take 1 = 3; program 9 a; mend 1 0; mending 0 is a; "
            + "take 0; habit 27 1 = 1; habit 0 0 = 1; program a 9; mend 1 0; mending 0 is a; rank 0 = 1; program a ); "
            + "mend 0 0; mending 0 is ( a ); rank 0 = 1");
        edge("without a CHANGE", GAINED_A + LOST_B + "program a; mend 1 0 = 1; rank 0 = 0");
        edge("as it was ordered, though HABITS are forgotten", GAINED_A + "clear; mend 1 0; rank 0 = 1; forget; rank 0 = 1; "
            + "mending 0 is a; mend 1 0; rank 0 = 0");
        edge("as it was ordered, though the PROGRAM changes", GAINED_A + "clear; mend 1 0; program a a a; rank 0 = 1; rank 1 = 0");
        edge("behind a taken one", GAINED_A + "rank 0 = NONE");
        edge("no REFUSAL", "rank 9 = NONE; status = 0");
        // Three calls a time, and five more: 512 in all.
        edge("what was gained 169 times, by the 512th call", "mend 1 0; take 0; clear; ".repeat(169)
            + "habit 14 0 = 169; habit 14 1 = 0; mend 1 0 = 14; rank 0 = 169; mending 0 0 = 14");
    }

    // ---- promise 17 ----

    private static void apart() {
        String fifteen = "program a +; mend 1 0 = 15; ";
        edge("without any", "apart 0 0 = -2; status = 0");
        edge("with itself", fifteen + "apart 0 0 = NONE; apart 14 14 = NONE");
        edge("on none", fifteen + "mending 5 is a + 0; apart 0 5 = NONE; apart 5 0 = NONE");
        edge("on the first input", fifteen + "mending 6 is a + 1; apart 0 6 = 0; apart 6 0 = 0");
        edge("VARIABLE 3 changes fastest", fifteen + "mending 3 is a + c; mending 4 is a + d; apart 3 4 = 1; apart 4 3 = 1");
        edge("VARIABLE 2 after it", fifteen + "mending 2 is a + b; apart 2 3 = 5; apart 3 2 = 5");
        edge("VARIABLE 1 after it", fifteen + "mending 1 is a + a; apart 1 2 = 25; apart 2 1 = 25");
        edge("on the last input alone", "program a + b + c + d <; mend 1 1 = 14; mending 12 is a + b + c + d < 8; "
            + "mending 13 is a + b + c + d < 9; apart 12 13 = 624; apart 13 12 = 624");
        edge("on an input between", "program a + b + c + d <; mend 1 1 = 14; mending 10 is a + b + c + d < 6; "
            + "mending 11 is a + b + c + d < 7; apart 10 11 = 374; apart 11 12 = 499");
        edge("behind the last", fifteen + "apart 0 15 = -2; apart 15 0 = -2; apart 15 15 = -2");
        edge("below the first", fifteen + "apart 0 -1 = -2; apart -1 0 = -2; apart -1 -1 = -2");
        for (String far : FAR) {
            edge("far off, " + far, fifteen + "apart 0 " + far + " = -2; apart " + far + " 0 = -2");
        }
        edge("the last of 300", JUST_300 + "mend 1 0; apart 299 299 = NONE; apart 299 0 = 0; apart 300 0 = -2; apart 0 300 = -2");
        edge("one doesn't FIT", "program a +; mend 0 0; mending 1 is a + true; apart 0 1 = -6; apart 1 0 = -6; status = 0");
        edge("both don't FIT", "program a +; mend 0 0; mending 2 is a + false; apart 1 2 = -6; apart 1 1 = -6");
        edge("-2 is ahead of -6", "program a +; mend 0 0 = 17; apart 1 17 = -2; apart 17 1 = -2; apart 1 -1 = -2");
        edge("unlike KINDS", "mend 1 -1; mending 1 is false; mending 6 is 0; apart 1 6 = 0; apart 6 1 = 0");
        edge("unlike KINDS of alike VALUES", "mend 1 -1; mending 0 is true; mending 7 is 1; apart 0 7 = 0; apart 7 0 = 0");
        apartByEach();
        edge("behind a taken one", fifteen + "take 0; apart 0 0 = -2");
        edge("KINDS as they are now", "mend 1 0; mending 0 is a; mending 1 is b; apart 0 1 = 25; kind 0 1; apart 0 1 = 0; "
            + "kind 1 1; apart 0 1 = 50");
        edge("it doesn't FIT any more", fifteen + "apart 0 1 = 0; kind 0 1; apart 0 1 = -6; apart 0 0 = NONE");
    }

    private static void apartByEach() {
        int step = 125;
        for (int v = 0; v < 4; v++) {
            String word = WORDS.get(14 + v);
            edge("VARIABLE " + v + " as a truth", "kind " + v + " 1; mend 1 1 = 3; mending 2 is " + word
                + "; apart 0 2 = " + 2 * step + "; apart 1 2 = 0; apart 0 1 = 0");
            edge("VARIABLE " + v + " takes 2 and not 3", "program " + word + " <; mend 1 1 = 14; mending 7 is " + word + " < 3; "
                + "mending 8 is " + word + " < 4; apart 6 7 = " + 4 * step + "; apart 7 8 = NONE");
            edge("VARIABLE " + v + " takes -2 and not -3", "program 0 - < " + word + "; mend 1 1 = 15; mending 8 is 0 - 3 < " + word
                + "; mending 9 is 0 - 4 < " + word + "; apart 6 7 = " + step + "; apart 7 8 = 0; apart 8 9 = NONE");
            step /= 5;
        }
    }

    // ---- promise 18 ----

    private static void take() {
        String two = "program a ); mend 0 -1 = 2; ";
        edge("without any", "take 0 = -2; status = -2; count 0 = 0");
        edge("the first", two + "take 0 = 1; status = 0; holds a; habit 1 1 = 1; habit 1 0 = 0; habit 14 0 = 0; habit 14 1 = 0");
        edge("the last", two + "take 1 = 3; status = 0; holds ( a ); habit 0 0 = 1; habit 1 1 = 0; habit 1 0 = 0");
        for (String i : "2 -1 -2 MIN MAX".split(" ")) {
            edge("no such one, " + i, two + "take " + i + " = -2; status = -2; holds a ); count 2 = 2; changes = 1; "
                + "habit 1 1 = 0; habit 0 0 = 0");
        }
        edge("the last of 300", JUST_300 + "mend 1 0; take 300 = -2; take 299 = 3; holds 9 - 9; habit 27 0 = 2; "
            + "habit 2 1 = 1; habit 3 1 = 0; habit 3 0 = 0");
        edge("the latest are none then", two + "take 0; " + NO_LATEST);
        edge("TESTS and KINDS stay", "kind 1 1; test 1 1 0 0 1; program b b; mend 0 -1; take 0 = 1; count 1 = 1; keeps = 1; fits = 1");
        edge("of nine TOKENS", "program ( ( a + b + c + d ); mend 0 -1; take 0 = 9; holds ( a + b + c + d ); habit 0 1 = 1");
        edge("of ten TOKENS", "program ( ( a + b + c + d ); mend 0 -1; mending 2 -1 = 10; take 2 = 10; "
            + "holds not ( a + b + c + d ); put 14 = -5");
        edge("of ten TOKENS, without a CHANGE", "program not a + a + a + a < a; mend 0 -1; clear; take 0 = 10; "
            + "holds not a + a + a + a < a");
        edge("of eleven TOKENS", "program ( ( a + b + c + d ); mend 0 -1; take 6 = -5; status = -5; holds ( ( a + b + c + d ); "
            + "count 2 = 7; changes = 1; habit 1 0 = 0; mending 6 is ( ( a + b + c + d ) ); take 0 = 9");
        edge("of twelve TOKENS", "program ( ( not a + b + c + d; mend 0 -1; take 43 = -5; status = -5; holds ( ( not a + b + c + d; "
            + "count 2 = 44; changes = 2; habit 1 0 = 0");
        edge("of eleven TOKENS, though the PROGRAM is empty now", "program ( ( a + b + c + d ); mend 0 -1; clear; "
            + "take 6 = -5; count 0 = 0");
        edge("without a CHANGE: no HABITS", "program a + b; mend 1 0; take 0 = 3; habit 14 0 = 0; habit 14 1 = 0; "
            + "habit 2 0 = 0; count 2 = 0");
        edge("two gained of one TOKEN", "test 7 0 0 0 14; program +; mend 2 0; mending 0 is a + a; "
            + "take 0 = 3; habit 14 0 = 2; habit 2 0 = 0; habit 2 1 = 0");
        edge("two lost of one TOKEN", "program ) ) a < b; mend 1 -1; take 0 = 3; habit 1 1 = 2; habit 1 0 = 0; habit 14 1 = 0");
        edge("one gained, one lost", "program a; mend 1 1; mending 0 is true; take 0 = 1; habit 12 0 = 1; habit 14 1 = 1; "
            + "habit 12 1 = 0; habit 14 0 = 0");
        edge("moved, neither gained nor lost", "program + a b; test 30 70 1 1 100; mend 2 0 = 3; changes = 2; "
            + "mending 0 is a + b; take 0 = 3; habit 2 0 = 0; habit 2 1 = 0; habit 14 0 = 0; habit 15 1 = 0");
        edge("than the PROGRAM had as they were made", two + "program b b b; take 0 = 1; holds a; habit 1 1 = 1; "
            + "habit 15 1 = 0; habit 14 0 = 0");
        edge("than a PROGRAM had that was empty then", "mend 1 0; program a; take 0 = 1; habit 14 0 = 1");
        edge("than it had, each time counted anew", "program ( a; mend 0 0; program 9 9; mend 0 0; program ( a; mend 0 0 = 3; take 2 = 3; "
            + "habit 1 0 = 1; habit 0 1 = 0; habit 0 0 = 0; habit 27 1 = 0; habit 14 1 = 0");
        edge("HABITS add up", two + "take 0; " + two + "mending 0 is a; take 0; habit 1 1 = 2; " + two + "take 1; "
            + "habit 1 1 = 2; habit 0 0 = 1");
    }

    // ---- promise 19 to 21 ----

    private static void habit() {
        edge("of the lowest TOKEN", "program a ); mend 0 -1; take 1; habit 0 0 = 1; habit 0 1 = 0");
        edge("of the highest TOKEN", "mend 1 0; take 13 = 1; habit 27 0 = 1; habit 27 1 = 0");
        edge("of the highest TOKEN, lost", "program 9; mend 1 1; take 0; habit 27 0 = 0; habit 27 1 = 1");
        edge("of the lowest TOKEN, lost", "program ( a; mend 0 0; take 0 = 1; habit 0 1 = 1; habit 0 0 = 0");
        for (String far : "-1 28 MIN MAX".split(" ")) {
            edge("of TOKEN " + far, "habit " + far + " 0 = NONE; habit " + far + " 1 = NONE; status = 0");
        }
        for (String far : "-1 2 MIN MAX".split(" ")) {
            edge("what " + far, "mend 1 0; take 0; habit 14 " + far + " = NONE; habit 0 " + far + " = NONE; status = 0");
        }
        edge("both wrong", "habit 28 2 = NONE; habit -1 -1 = NONE");
    }

    private static void forget() {
        edge("without HABITS", "forget = 0; forget = 0; status = 0");
        StringBuilder none = new StringBuilder("program a ); mend 0 0; take 1; program 9; mend 1 1; take 0; habit 0 0 = 1; "
            + "habit 27 1 = 1; habit 12 0 = 1; forget = 0");
        for (int t = 0; t < 28; t++) {
            none.append("; habit ").append(t).append(" 0 = 0; habit ").append(t).append(" 1 = 0");
        }
        edge("of every TOKEN", none.toString());
        edge("later RANKS are 0", GAINED_A + LOST_B + "forget = 0; program b c; mend 1 0; mending 0 is b; rank 0 = 0; rank 1 = 0");
        edge("all else stays", "kind 3 1; test 1 2 3 4 1; program a; mend 1 0 = 1; put 28; forget = 0; "
            + "holds a; keeps = 1; count 1 = 1; count 2 = 1; changes = 0; status = -1; kind 3 1 = 1");
        edge("HABITS grow again", GAINED_A + "forget; clear; " + GAINED_A + "habit 14 0 = 1");
        edge("what is taken behind it grows", "mend 1 0; forget; take 0; habit 14 0 = 1");
    }

    private static void count() {
        edge("TOKENS: none, ten", "count 0 = 0; " + TEN_OPEN + "count 0 = 10; put 0; count 0 = 10");
        edge("TESTS: none, eight", "count 1 = 0; " + EIGHT_TESTS + "count 1 = 8; test 0 0 0 0 0; count 1 = 8");
        edge("MENDINGS: none, 300", "count 2 = 0; " + JUST_300 + "mend 1 0; count 2 = 300");
        edge("MENDINGS: one", "program a; mend 0 0; count 2 = 1");
        edge("MENDINGS: none behind a taken one", "program a; mend 0 0; take 0; count 2 = 0");
        for (String what : "-1 3 MIN MAX".split(" ")) {
            edge("of others, " + what, "program a +; test 0 0 0 0 0; mend 0 0; count " + what + " = NONE; status = 0");
        }
    }

    // ---- promise 22 ----

    private static void status() {
        edge("ahead of any", "status = 0; clear; fault; status = 0");
        String refused = "put 28 = -1; status = -1; ";
        String missing = "drop 0 = -2; status = -2; ";
        edge("put", missing + "put 28 = -1; status = -1; put 14 = 1; status = 0; " + TEN_OPEN + "put 14 = -5; status = -5");
        edge("set", missing + "set 0 28 = -1; status = -1; set 0 0 = -2; status = -2; program a; " + missing + "set 0 15 = 1; status = 0");
        edge("set that takes out", "program a; " + missing + "set 0 -1 = 0; status = 0");
        edge("kind", missing + "kind 4 0 = -1; status = -1; kind 0 1 = 0; status = 0; " + missing + "kind 0 1 = 1; status = 0");
        edge("test", missing + "test 101 0 0 0 0 = -1; status = -1; test 0 0 0 0 0 = 0; status = 0; " + EIGHT_TESTS + "status = -5");
        edge("drop", refused + "drop 0 = -2; status = -2; test 0 0 0 0 0; " + refused + "drop 0 = 0; status = 0");
        edge("mend, a number that can't be", missing + "mend 3 0 = -1; status = -1");
        edge("mend, too many", TOO_MANY + missing + "mend 0 0 = -5; status = -5");
        edge("mend, none", NOT_BY_TWO + missing + "mend 0 0 = -6; status = -6");
        edge("mend, some", missing + "mend 0 0 = 16; status = 0");
        edge("take, no such one", refused + "take 0 = -2; status = -2");
        edge("take, too long", "program ( ( a + b + c + d ); mend 0 -1; "
            + "" + refused.replace("put 28", "put 99") + "take 6 = -5; status = -5");
        edge("take, one that is", "mend 0 0; " + missing + "take 0 = 1; status = 0");
        String[] others = {
            "clear", "token 99", "token -1", "fault", "fits", "value 0 0 0 0", "keeps", "changes", "mending 0 0", "mending 99 0",
            "rank 0", "rank 99", "apart 0 0", "apart 0 99", "apart 0 1", "habit 0 0", "habit 99 0", "forget", "count 0", "count 99", "status",
        };
        for (String other : others) {
            edge(other + " leaves it", "program a +; mend 0 0 = 17; " + other + "; status = 0; drop 9; " + other + "; "
                + "status = -2; put 28; " + other + "; status = -1");
        }
    }

    private static void watch() {
        Thread watcher = new Thread(() -> {
            try {
                Thread.sleep(ROOM_FOR_SECONDS * 1000L);
            } catch (InterruptedException e) {
                return;
            }
            System.out.println("promise " + promise + ", " + edge + ": a call doesn't end");
            Runtime.getRuntime().halt(1);
        });
        watcher.setDaemon(true);
        watcher.start();
    }

    public static void main(String[] args) {
        watch();
        Runnable[] promises = {
            MeantTextsEdges::newObject, MeantTextsEdges::put, MeantTextsEdges::set, MeantTextsEdges::clear,
            MeantTextsEdges::token, MeantTextsEdges::kind, MeantTextsEdges::fault, MeantTextsEdges::fits,
            MeantTextsEdges::value, MeantTextsEdges::test, MeantTextsEdges::drop, MeantTextsEdges::keeps,
            MeantTextsEdges::mend, MeantTextsEdges::changes, MeantTextsEdges::mending, MeantTextsEdges::rank,
            MeantTextsEdges::apart, MeantTextsEdges::take, MeantTextsEdges::habit, MeantTextsEdges::forget,
            MeantTextsEdges::count, MeantTextsEdges::status,
        };
        for (Runnable p : promises) {
            promise++;
            p.run();
        }
        System.out.println(edges + " boundary cases of " + promise + " promises, " + wrong + " don't hold");
        if (wrong != 0) {
            System.exit(1);
        }
    }
}
