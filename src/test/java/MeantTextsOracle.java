import java.util.ArrayList;
import java.util.Arrays;
import java.util.Comparator;
import java.util.HashSet;
import java.util.List;
import java.util.Set;

/**
 * Long runs of calls, each answer held against a second, plain program: it reads by recursive
 * descent, keeps trees, and finds mendings by making every change there is and then every second one.
 */
public final class MeantTextsOracle {
    private static final int NOTHING = -2000000;
    private static int wrong = 0;
    private static long calls = 0;
    private static long seed = 20261116L;

    /** A pseudo-random row that is the same in every run. */
    private static int below(int bound) {
        seed = seed * 6364136223846793005L + 1442695040888963407L;
        return (int) ((seed >>> 33) % bound);
    }

    // ---- the plain program ----

    private static final class Unread extends RuntimeException {
        private static final long serialVersionUID = 1L;
        final int place;

        Unread(int place) {
            super("", null, false, false);
            this.place = place;
        }
    }

    private static final class Unfit extends RuntimeException {
        private static final long serialVersionUID = 1L;

        Unfit() {
            super("", null, false, false);
        }
    }

    private static final class NoValue extends RuntimeException {
        private static final long serialVersionUID = 1L;

        NoValue() {
            super("", null, false, false);
        }
    }

    private record Tree(int token, List<Tree> parts) { }

    private static final class Descent {
        final List<Integer> row;
        int at = 0;

        Descent(List<Integer> row) {
            this.row = row;
        }

        static Tree read(List<Integer> row) {
            Descent d = new Descent(row);
            Tree tree = d.choice();
            if (d.at < row.size()) {
                throw new Unread(d.at);
            }
            return tree;
        }

        int peek() {
            return at < row.size() ? row.get(at) : -1;
        }

        void need(int token) {
            if (peek() != token) {
                throw new Unread(at);
            }
            at++;
        }

        Tree choice() {
            if (peek() != 9) {
                return both();
            }
            at++;
            Tree asked = choice();
            need(10);
            Tree yes = choice();
            need(11);
            return new Tree(9, List.of(asked, yes, choice()));
        }

        Tree both() {
            Tree left = not();
            while (peek() == 7) {
                at++;
                left = new Tree(7, List.of(left, not()));
            }
            return left;
        }

        Tree not() {
            if (peek() == 8) {
                at++;
                return new Tree(8, List.of(not()));
            }
            return sides();
        }

        Tree sides() {
            Tree left = sum();
            if (peek() == 5 || peek() == 6) {
                int token = row.get(at++);
                return new Tree(token, List.of(left, sum()));
            }
            return left;
        }

        Tree sum() {
            Tree left = times();
            while (peek() == 2 || peek() == 3) {
                int token = row.get(at++);
                left = new Tree(token, List.of(left, times()));
            }
            return left;
        }

        Tree times() {
            Tree left = atom();
            while (peek() == 4) {
                at++;
                left = new Tree(4, List.of(left, atom()));
            }
            return left;
        }

        Tree atom() {
            int token = peek();
            if (token == 0) {
                at++;
                Tree inside = choice();
                need(1);
                return inside;
            }
            if (token < 12) {
                throw new Unread(at);
            }
            at++;
            return new Tree(token, List.of());
        }
    }

    private record Mending(List<Integer> row, int rank) { }

    private static final class Plain {
        List<Integer> program = new ArrayList<>();
        int[] kinds = new int[4];
        List<int[]> tests = new ArrayList<>();
        int[] gained = new int[28];
        int[] lost = new int[28];
        List<Mending> latest = new ArrayList<>();
        List<Integer> mended = List.of();
        int changes = -1;
        int status = 0;

        int say(int refusal) {
            status = refusal;
            return refusal;
        }

        int done(int answer) {
            status = 0;
            return answer;
        }

        static int faultOf(List<Integer> row) {
            try {
                Descent.read(row);
                return -1;
            } catch (Unread u) {
                return u.place;
            }
        }

        int kindOf(Tree t) {
            int token = t.token();
            if (t.parts().isEmpty()) {
                return token < 14 ? 1 : token < 18 ? kinds[token - 14] : 0;
            }
            int[] of = new int[t.parts().size()];
            for (int i = 0; i < of.length; i++) {
                of[i] = kindOf(t.parts().get(i));
            }
            boolean fit;
            int makes = 1;
            switch (token) {
                case 2, 3, 4 -> {
                    fit = of[0] == 0 && of[1] == 0;
                    makes = 0;
                }
                case 5 -> fit = of[0] == 0 && of[1] == 0;
                case 6 -> fit = of[0] == of[1];
                case 7 -> fit = of[0] == 1 && of[1] == 1;
                case 8 -> fit = of[0] == 1;
                default -> {
                    fit = of[0] == 1 && of[1] == of[2];
                    makes = of[1];
                }
            }
            if (!fit) {
                throw new Unfit();
            }
            return makes;
        }

        /** 0, 1; -6 doesn't fit; -5 doesn't read. */
        int fits(List<Integer> row) {
            try {
                return kindOf(Descent.read(row));
            } catch (Unread u) {
                return -5;
            } catch (Unfit u) {
                return -6;
            }
        }

        long work(Tree t, int[] in) {
            int token = t.token();
            long[] of = new long[t.parts().size()];
            for (int i = 0; i < of.length; i++) {
                of[i] = work(t.parts().get(i), in);
            }
            long v = switch (token) {
                case 2 -> of[0] + of[1];
                case 3 -> of[0] - of[1];
                case 4 -> of[0] * of[1];
                case 5 -> of[0] < of[1] ? 1 : 0;
                case 6 -> of[0] == of[1] ? 1 : 0;
                case 7 -> of[0] == 1 && of[1] == 1 ? 1 : 0;
                case 8 -> of[0] == 0 ? 1 : 0;
                case 9 -> of[0] == 1 ? of[1] : of[2];
                case 12 -> 1;
                case 13 -> 0;
                case 14, 15, 16, 17 -> kinds[token - 14] == 0 ? in[token - 14] : in[token - 14] == 0 ? 0 : 1;
                default -> token - 18;
            };
            if (Math.abs(v) > 1000000) {
                throw new NoValue();
            }
            return v;
        }

        int value(List<Integer> row, int... in) {
            if (fits(row) < 0) {
                return NOTHING;
            }
            try {
                return (int) work(Descent.read(row), in);
            } catch (NoValue n) {
                return NOTHING;
            }
        }

        int kept(List<Integer> row) {
            int kept = 0;
            for (int[] t : tests) {
                if (value(row, t) == t[4]) {
                    kept++;
                }
            }
            return kept;
        }

        boolean does(List<Integer> row, int goal, int kind) {
            int fits = fits(row);
            if (goal == 0) {
                return fits != -5;
            }
            if (fits < 0 || kind != -1 && fits != kind) {
                return false;
            }
            return goal == 1 || kept(row) == tests.size();
        }

        static Set<List<Integer>> changed(Set<List<Integer>> rows) {
            Set<List<Integer>> all = new HashSet<>();
            for (List<Integer> row : rows) {
                for (int place = 0; place <= row.size(); place++) {
                    for (int token = 0; token < 28; token++) {
                        List<Integer> in = new ArrayList<>(row);
                        in.add(place, token);
                        all.add(in);
                        if (place < row.size() && row.get(place) != token) {
                            List<Integer> other = new ArrayList<>(row);
                            other.set(place, token);
                            all.add(other);
                        }
                    }
                    if (place < row.size()) {
                        List<Integer> out = new ArrayList<>(row);
                        out.remove(place);
                        all.add(out);
                    }
                }
            }
            return all;
        }

        static int[] difference(List<Integer> row, List<Integer> from) {
            int[] more = new int[28];
            for (int t : row) {
                more[t]++;
            }
            for (int t : from) {
                more[t]--;
            }
            return more;
        }

        int rankOf(List<Integer> row) {
            int rank = 0;
            int[] more = difference(row, program);
            for (int t = 0; t < 28; t++) {
                rank += more[t] > 0 ? more[t] * gained[t] : -more[t] * lost[t];
            }
            return rank;
        }

        static int order(Mending a, Mending b) {
            if (a.rank() != b.rank()) {
                return b.rank() - a.rank();
            }
            if (a.row().size() != b.row().size()) {
                return a.row().size() - b.row().size();
            }
            for (int i = 0; i < a.row().size(); i++) {
                int c = Integer.compare(a.row().get(i), b.row().get(i));
                if (c != 0) {
                    return c;
                }
            }
            return 0;
        }

        int mend(int goal, int kind) {
            if (goal < 0 || goal > 2 || goal > 0 && (kind < -1 || kind > 1)) {
                return say(-1);
            }
            latest = new ArrayList<>();
            changes = -1;
            mended = new ArrayList<>(program);
            Set<List<Integer>> rows = Set.of(mended);
            for (int k = 0; k <= 2; k++) {
                for (List<Integer> row : rows) {
                    if (does(row, goal, kind)) {
                        latest.add(new Mending(row, rankOf(row)));
                    }
                }
                if (latest.size() > 300) {
                    latest = new ArrayList<>();
                    return say(-5);
                }
                if (!latest.isEmpty()) {
                    changes = k;
                    latest.sort(Comparator.comparing((Mending m) -> m, Plain::order));
                    return done(latest.size());
                }
                if (k < 2) {
                    rows = changed(rows);
                }
            }
            return say(-6);
        }

        boolean has(int i) {
            return i >= 0 && i < latest.size();
        }

        int apart(int i, int k) {
            if (!has(i) || !has(k)) {
                return -2;
            }
            List<Integer> a = latest.get(i).row();
            List<Integer> b = latest.get(k).row();
            if (fits(a) < 0 || fits(b) < 0) {
                return -6;
            }
            if (fits(a) != fits(b)) {
                return 0;
            }
            int n = 0;
            for (int v0 = -2; v0 <= 2; v0++) {
                for (int v1 = -2; v1 <= 2; v1++) {
                    for (int v2 = -2; v2 <= 2; v2++) {
                        for (int v3 = -2; v3 <= 2; v3++) {
                            if (value(a, v0, v1, v2, v3) != value(b, v0, v1, v2, v3)) {
                                return n;
                            }
                            n++;
                        }
                    }
                }
            }
            return -1;
        }

        int take(int i) {
            if (!has(i)) {
                return say(-2);
            }
            List<Integer> row = latest.get(i).row();
            if (row.size() > 10) {
                return say(-5);
            }
            int[] more = difference(row, mended);
            for (int t = 0; t < 28; t++) {
                gained[t] += Math.max(0, more[t]);
                lost[t] += Math.max(0, -more[t]);
            }
            program = new ArrayList<>(row);
            latest = new ArrayList<>();
            changes = -1;
            return done(program.size());
        }
    }

    // ---- the comparison ----

    private static final class Pair {
        final MeantTexts x = new MeantTexts();
        final Plain p = new Plain();
        final StringBuilder run = new StringBuilder();
        int used = 0;

        int due(String call, int got, int want) {
            calls++;
            used++;
            run.append(call).append(" -> ").append(got).append('\n');
            if (got != want) {
                wrong++;
                if (wrong <= 5) {
                    System.out.println("due is " + want + " behind:\n" + run);
                }
            }
            return want;
        }

        void put(int token) {
            int want;
            if (token < 0 || token > 27) {
                want = p.say(-1);
            } else if (p.program.size() >= 10) {
                want = p.say(-5);
            } else {
                p.program.add(token);
                want = p.done(p.program.size());
            }
            due("put(" + token + ")", x.put(token), want);
        }

        void set(int place, int token) {
            int want;
            if (token < -1 || token > 27) {
                want = p.say(-1);
            } else if (place < 0 || place >= p.program.size()) {
                want = p.say(-2);
            } else {
                if (token == -1) {
                    p.program.remove(place);
                } else {
                    p.program.set(place, token);
                }
                want = p.done(p.program.size());
            }
            due("set(" + place + ", " + token + ")", x.set(place, token), want);
        }

        void clear() {
            int want = p.program.size();
            p.program.clear();
            due("clear()", x.clear(), want);
        }

        void kind(int variable, int kind) {
            int want;
            if (variable < 0 || variable > 3 || kind < 0 || kind > 1) {
                want = p.say(-1);
            } else {
                want = p.done(p.kinds[variable]);
                p.kinds[variable] = kind;
            }
            due("kind(" + variable + ", " + kind + ")", x.kind(variable, kind), want);
        }

        void test(int... t) {
            int want;
            boolean can = Math.abs((long) t[4]) <= 1000000;
            for (int i = 0; i < 4; i++) {
                can = can && Math.abs((long) t[i]) <= 100;
            }
            if (!can) {
                want = p.say(-1);
            } else if (p.tests.size() >= 8) {
                want = p.say(-5);
            } else {
                p.tests.add(t.clone());
                want = p.done(p.tests.size() - 1);
            }
            due("test(" + Arrays.toString(t) + ")", x.test(t[0], t[1], t[2], t[3], t[4]), want);
        }

        void drop(int i) {
            int want;
            if (i < 0 || i >= p.tests.size()) {
                want = p.say(-2);
            } else {
                p.tests.remove(i);
                want = p.done(p.tests.size());
            }
            due("drop(" + i + ")", x.drop(i), want);
        }

        void value(int... in) {
            due("value(" + Arrays.toString(in) + ")", x.value(in[0], in[1], in[2], in[3]), p.value(p.program, in));
        }

        int mend(int goal, int kind) {
            return due("mend(" + goal + ", " + kind + ")", x.mend(goal, kind), p.mend(goal, kind));
        }

        void mending(int i, int k) {
            int want = -1;
            if (p.has(i) && k == -1) {
                want = p.latest.get(i).row().size();
            } else if (p.has(i) && k >= 0 && k < p.latest.get(i).row().size()) {
                want = p.latest.get(i).row().get(k);
            }
            due("mending(" + i + ", " + k + ")", x.mending(i, k), want);
        }

        void rank(int i) {
            due("rank(" + i + ")", x.rank(i), p.has(i) ? p.latest.get(i).rank() : -1);
        }

        void apart(int i, int k) {
            due("apart(" + i + ", " + k + ")", x.apart(i, k), p.apart(i, k));
        }

        void take(int i) {
            due("take(" + i + ")", x.take(i), p.take(i));
        }

        void forget() {
            p.gained = new int[28];
            p.lost = new int[28];
            due("forget()", x.forget(), 0);
        }

        void habit(int token, int what) {
            int want = -1;
            if (token >= 0 && token < 28 && (what == 0 || what == 1)) {
                want = what == 0 ? p.gained[token] : p.lost[token];
            }
            due("habit(" + token + ", " + what + ")", x.habit(token, what), want);
        }

        void look() {
            due("status()", x.status(), p.status);
            due("fault()", x.fault(), Plain.faultOf(p.program));
            due("fits()", x.fits(), p.fits(p.program));
            due("keeps()", x.keeps(), p.fits(p.program) < 0 ? -6 : p.kept(p.program));
            due("changes()", x.changes(), p.latest.isEmpty() ? -1 : p.changes);
            due("count(0)", x.count(0), p.program.size());
            due("count(1)", x.count(1), p.tests.size());
            due("count(2)", x.count(2), p.latest.size());
            int i = below(14) - 2;
            int want = i == -1 ? p.program.size() : i >= 0 && i < p.program.size() ? p.program.get(i) : -1;
            due("token(" + i + ")", x.token(i), want);
        }
    }

    private static int smallWrong(int bound) {
        return below(8) == 0 ? below(2) == 0 ? -1 - below(3) : bound + below(3) : below(bound);
    }

    /** A row out of the grammar, no longer than there is room for; null if it grew too long. */
    private static List<Integer> grown() {
        List<Integer> row = new ArrayList<>();
        choice(row, 0);
        return row.size() <= 10 ? row : null;
    }

    private static void choice(List<Integer> row, int depth) {
        if (row.size() > 10) {
            return;
        }
        if (below(4) == 0) {
            row.add(9);
            choice(row, depth + 1);
            row.add(10);
            choice(row, depth + 1);
            row.add(11);
            choice(row, depth + 1);
            return;
        }
        boolean more = true;
        while (more && row.size() <= 10) {
            while (below(5) == 0) {
                row.add(8);
            }
            sum(row, depth);
            if (below(3) == 0) {
                row.add(5 + below(2));
                sum(row, depth);
            }
            more = below(5) == 0;
            if (more) {
                row.add(7);
            }
        }
    }

    private static void sum(List<Integer> row, int depth) {
        boolean more = true;
        while (more && row.size() <= 10) {
            if (depth < 5 && below(6) == 0) {
                row.add(0);
                choice(row, depth + 1);
                row.add(1);
            } else {
                row.add(12 + below(below(3) == 0 ? 16 : 6));
            }
            more = below(3) == 0;
            if (more) {
                row.add(2 + below(3));
            }
        }
    }

    private static List<Integer> someProgram(int longest, int edits) {
        List<Integer> row = grown();
        for (int tries = 0; tries < 1000 && (row == null || row.size() > longest); tries++) {
            row = grown();
        }
        for (int e = 0; e < edits; e++) {
            int place = below(row.size() + 1);
            int way = below(3);
            if (way == 0 && row.size() < longest) {
                row.add(place, below(28));
            } else if (place < row.size()) {
                if (way == 1) {
                    row.remove(place);
                } else {
                    row.set(place, below(28));
                }
            }
        }
        return row;
    }

    private static void lookAtMendings(Pair pair) {
        int n = pair.p.latest.size();
        for (int i = 0; i < n; i += 1 + n / 24) {
            pair.mending(i, -1);
            pair.rank(i);
            for (int k = 0; k < pair.p.latest.get(i).row().size() && pair.used < 440; k++) {
                pair.mending(i, k);
            }
        }
        pair.mending(n, 0);
        pair.mending(n, -1);
        pair.mending(-1, -1);
        pair.rank(n);
        pair.rank(-1);
        if (n > 0) {
            pair.mending(n - 1, pair.p.latest.get(n - 1).row().size());
            pair.mending(0, -2);
            for (int i = 0; i < 4; i++) {
                pair.apart(below(n), below(n));
            }
        }
        pair.apart(n, 0);
        pair.apart(0, -1);
    }

    /** Every kind of call, now and then with numbers that can't be. */
    private static void mixedRun(int longest) {
        Pair pair = new Pair();
        pair.look();
        while (pair.used < 480) {
            switch (below(12)) {
                case 0 -> {
                    pair.clear();
                    for (int token : someProgram(longest, below(4))) {
                        pair.put(token);
                    }
                }
                case 1 -> pair.put(smallWrong(28));
                case 2 -> pair.set(smallWrong(Math.max(1, pair.p.program.size())), smallWrong(29) - 1);
                case 3 -> pair.kind(smallWrong(4), smallWrong(2));
                case 4 -> pair.test(below(203) - 101, below(7) - 3, below(3), below(201) - 100,
                    below(9) == 0 ? below(2) * 2000002 - 1000001 : below(9) - 3);
                case 5 -> pair.drop(smallWrong(Math.max(1, pair.p.tests.size())));
                case 6 -> pair.value(below(5) - 2, below(2001) - 1000, below(3000000) - 1500000, below(3) - 1);
                case 7 -> {
                    if (pair.p.program.size() <= longest) {
                        pair.mend(smallWrong(3), smallWrong(3) - 1);
                    }
                }
                case 8 -> pair.take(below(3) == 0 ? smallWrong(301) : below(Math.max(1, pair.p.latest.size())));
                case 9 -> pair.habit(smallWrong(28), smallWrong(2));
                case 10 -> {
                    if (below(6) == 0) {
                        pair.forget();
                    } else {
                        pair.apart(below(5), below(12));
                    }
                }
                default -> {
                    for (int i = 0; i < 3; i++) {
                        int one = below(12);
                        pair.mending(one, below(8) - 1);
                        pair.rank(one);
                    }
                }
            }
            pair.look();
        }
    }

    private static final int[] EDGES = {
        Integer.MIN_VALUE, Integer.MIN_VALUE + 1, -2000000, -1000001, -1000000, -65536, -101, -100, -2, -1, 0, 1, 2, 3, 4,
        7, 8, 9, 10, 11, 12, 13, 14, 17, 18, 27, 28, 31, 32, 63, 64, 99, 100, 101, 299, 300, 301, 624, 625, 1000, 1001,
        65536, 1000000, 1000001, Integer.MAX_VALUE - 1, Integer.MAX_VALUE,
    };

    private static int edge() {
        return EDGES[below(EDGES.length)];
    }

    /** Every kind of call in every kind of state, with numbers from all edges. */
    private static void wildRun() {
        Pair pair = new Pair();
        while (pair.used < 490) {
            switch (below(16)) {
                case 0 -> {
                    pair.clear();
                    for (int token : someProgram(4, below(3))) {
                        pair.put(token);
                    }
                }
                case 1 -> pair.put(edge());
                case 2 -> pair.set(edge(), edge());
                case 3 -> pair.kind(edge(), edge());
                case 4 -> pair.test(edge(), edge(), edge(), edge(), edge());
                case 5 -> pair.test(below(201) - 100, below(201) - 100, below(201) - 100, below(201) - 100, edge());
                case 6 -> pair.drop(edge());
                case 7, 8 -> pair.value(edge(), edge(), edge(), edge());
                case 9 -> pair.mend(edge(), edge());
                case 10 -> {
                    if (pair.p.program.size() <= 4) {
                        pair.mend(below(3), below(3) - 1);
                    }
                }
                case 11 -> pair.take(edge());
                case 12 -> pair.habit(edge(), edge());
                case 13 -> pair.apart(edge(), edge());
                case 14 -> pair.rank(edge());
                default -> pair.mending(edge(), edge());
            }
            pair.look();
        }
    }

    /** A learner: spoilt programs, mended and taken one after another, so that habits order what comes. */
    private static void learnerRun(int longest, int edits) {
        Pair pair = new Pair();
        for (int v = 0; v < 4; v++) {
            pair.kind(v, below(3) == 0 ? 1 : 0);
        }
        while (pair.used < 400) {
            List<Integer> aim = someProgram(longest, 0);
            pair.clear();
            for (int token : aim) {
                pair.put(token);
            }
            while (!pair.p.tests.isEmpty()) {
                pair.drop(0);
            }
            for (int t = below(4); t > 0; t--) {
                int[] in = {below(7) - 3, below(7) - 3, below(7) - 3, below(7) - 3, 0};
                int wanted = pair.p.value(pair.p.program, in);
                in[4] = wanted == NOTHING ? 3 : wanted;
                pair.test(in);
            }
            for (int e = 0; e < edits; e++) {
                int size = pair.p.program.size();
                if (size > 0) {
                    pair.set(below(size), below(4) == 0 ? -1 : below(28));
                }
            }
            pair.mend(below(3), below(3) - 1);
            pair.look();
            if (below(4) == 0) {
                pair.put(below(28));
                pair.kind(below(4), below(2));
            }
            lookAtMendings(pair);
            pair.take(below(Math.max(1, pair.p.latest.size())));
            pair.look();
            pair.habit(below(28), below(2));
        }
    }

    private static void longRun() {
        Pair pair = new Pair();
        List<Integer> row = someProgram(10, below(4));
        for (int tries = 0; tries < 1000 && row.size() < 9; tries++) {
            row = someProgram(10, 2 + below(3));
        }
        for (int token : row) {
            pair.put(token);
        }
        pair.test(3, 1, -2, 5, below(40) - 20);
        for (int goal = 0; goal <= 2; goal++) {
            pair.mend(goal, below(3) - 1);
            pair.look();
            lookAtMendings(pair);
        }
        pair.take(pair.p.latest.size() - 1);
        pair.look();
    }

    /** Every row of up to three tokens, and fault and fits of it. */
    private static void shortRows() {
        for (int a = 0; a < 28; a++) {
            for (int b = -1; b < 28; b++) {
                Pair pair = new Pair();
                pair.kind(1, 1);
                pair.put(a);
                if (b >= 0) {
                    pair.put(b);
                    for (int c = 0; c < 28; c++) {
                        pair.put(c);
                        pair.due("fault()", pair.x.fault(), Plain.faultOf(pair.p.program));
                        pair.due("fits()", pair.x.fits(), pair.p.fits(pair.p.program));
                        pair.set(2, -1);
                    }
                } else {
                    pair.look();
                }
            }
        }
    }

    public static void main(String[] args) {
        shortRows();
        for (int i = 0; i < 150; i++) {
            mixedRun(4);
        }
        for (int i = 0; i < 100; i++) {
            wildRun();
        }
        for (int i = 0; i < 60; i++) {
            mixedRun(3);
            learnerRun(6, 1);
            learnerRun(5, 2);
        }
        for (int i = 0; i < 6; i++) {
            mixedRun(9);
        }
        for (int i = 0; i < 40; i++) {
            longRun();
        }
        System.out.println(calls + " calls, " + wrong + " answers are not as due");
        if (wrong != 0) {
            System.exit(1);
        }
    }
}
