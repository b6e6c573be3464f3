import java.nio.charset.StandardCharsets;
import java.util.ArrayDeque;
import java.util.ArrayList;
import java.util.Arrays;
import java.util.Deque;
import java.util.HashSet;
import java.util.List;
import java.util.NoSuchElementException;
import java.util.Random;
import java.util.Set;
import java.util.regex.Matcher;
import java.util.regex.Pattern;

/** Runs of calls by chance (always the same ones), each answer compared with that of a plain and slow model. */
public final class ModelTest {
    private static final int RUNS = 1500;
    private static final int CALLS = 120;

    private static final long NO_SUCH = Long.MIN_VALUE + 1;
    private static final long ILLEGAL = Long.MIN_VALUE + 2;

    public static void main(String[] args) {
        int runs = args.length > 0 ? Integer.parseInt(args[0]) : RUNS;
        int firstRun = args.length > 1 ? Integer.parseInt(args[1]) : 0;
        int wrong = 0;
        for (int run = firstRun; run < firstRun + runs && wrong < 10; run++) {
            wrong += run(run);
        }
        System.out.println(wrong == 0 ? "the model agrees" : wrong + " runs differ from the model");
        if (wrong != 0) {
            System.exit(1);
        }
    }

    // ---- the runs

    private static int run(int number) {
        Random chance = new Random(number * 7919L + 13);
        HorizonSeam x = new HorizonSeam();
        Model model = new Model();
        List<String> log = new ArrayList<>();
        if (chance.nextInt(10) > 0) {
            int[] text = feeds(text(chance));
            for (int k = 0; k + 4 < text.length; k += 5) {
                int[] call = {0, text[k], text[k + 1], text[k + 2], text[k + 3], text[k + 4]};
                if (!same(x, model, call, log)) {
                    return 1;
                }
            }
            if (!same(x, model, new int[] {1, text[text.length - 1]}, log) || !same(x, model, new int[] {2}, log)) {
                return 1;
            }
        }
        for (int k = 0; k < CALLS; k++) {
            if (!same(x, model, call(chance, model), log)) {
                return 1;
            }
        }
        return 0;
    }

    private static boolean same(HorizonSeam x, Model model, int[] call, List<String> log) {
        long want = model.answer(call);
        long got;
        try {
            got = ask(x, call);
        } catch (NoSuchElementException e) {
            got = NO_SUCH;
        } catch (IllegalArgumentException e) {
            got = ILLEGAL;
        }
        log.add(Arrays.toString(call) + " -> " + want);
        if (got != want) {
            System.out.println("differs: " + got + " instead of " + want + " behind");
            log.forEach(System.out::println);
            System.out.println("text: " + model.lastText);
            return false;
        }
        return true;
    }

    private static long ask(HorizonSeam x, int[] c) {
        switch (c[0]) {
            case 0: return x.feed(c[1], c[2], c[3], c[4], c[5]);
            case 1: return x.ring(c[1]);
            case 2: return x.fault();
            case 3: return x.count(c[1]);
            case 4: return x.stretch(c[1], c[2]);
            case 5: return x.woman(c[1], c[2]);
            case 6: return x.days(c[1]);
            case 7: return x.mend(c[1]);
            case 8: return x.go(c[1], c[2]);
            case 9: return x.stitch(c[1], c[2]);
            case 10: return x.thread(c[1], c[2]);
            case 11: return x.tear(c[1], c[2]);
            case 12: return x.undo();
            case 13: return x.then(c[1], c[2], c[3]);
            case 14: return x.later(c[1], c[2]);
            case 15: return x.opens(c[1]);
            case 16: return x.first();
            case 17: return x.where(c[1], c[2], c[3]);
            case 18: return x.spent();
            case 19: return x.toHold(c[1], c[2]);
            case 20: return x.toSend(c[1], c[2], c[3]);
            case 21: return x.bestStitch(c[1], c[2]);
            case 22: return x.sent(c[1], c[2]);
            case 23: return x.closed(c[1]);
            case 24: return x.tight(c[1], c[2]);
            case 25: return x.readings(c[1], c[2]);
            case 26: return x.see(c[1], c[2], c[3]);
            case 27: x.forget(); return 0;
            case 28: return x.torn(c[1]);
            case 29: return x.look(c[1]);
            case 30: return x.gales(c[1], c[2]);
            case 31: return x.game(c[1], c[2], c[3]);
            case 32: return x.years(c[1], c[2], c[3]);
            case 33: return x.steady();
            case 34: return x.nearest(c[1]);
            case 35: return x.far(c[1], c[2]);
            case 36: return x.gaps();
            case 37: return x.worst(c[1]);
            case 38: return x.meet(c[1], c[2]);
            case 39: return x.bare(c[1]);
            case 40: return x.load(c[1]);
            case 41: x.image(); return 0;
            default: return x.restore() ? 1 : 0;
        }
    }

    /** What each argument is: s stretch, w woman, d days, 0 to 9 the greatest what, m much, k kind, others their own. */
    private static final String[] SHAPES = {"aaaaa", "n", "", "E", "s5", "w2", "D", "w", "ws", "sk", "wm", "sm", "",
        "sd1", "d3", "s", "", "wd1", "", "sd", "wd1", "sd", "bs", "1", "r1", "N1", "sVe", "", "2", "1", "gt", "ww1",
        "ad2", "", "s", "ss", "", "m", "ww", "d", "e", "", ""};

    private static int[] call(Random chance, Model model) {
        int which = chance.nextInt(SHAPES.length);
        while (which < 2 && chance.nextInt(4) > 0 || which == 41 && chance.nextInt(3) > 0) {
            which = chance.nextInt(SHAPES.length);
        }
        String shape = SHAPES[which];
        int[] call = new int[shape.length() + 1];
        call[0] = which;
        for (int k = 0; k < shape.length(); k++) {
            call[k + 1] = argument(chance, shape.charAt(k), model);
        }
        if (which == 26 && chance.nextInt(3) > 0 && call[1] >= 0 && call[1] < model.n && call[2] >= 0 && call[2] <= 20) {
            call[3] = sight(chance, model, call[1], call[2]);
        }
        return call;
    }

    /** A seam that may truly be seen behind a tear. */
    private static int sight(Random chance, Model model, int stretch, int days) {
        State s = model.state.copy();
        int torn = chance.nextInt(model.n);
        if (chance.nextBoolean() && s.seam[torn] > 0) {
            model.tear(s, torn, 1 + chance.nextInt(20));
        }
        for (int k = 0; k < days; k++) {
            model.day(s);
        }
        return s.seam[stretch];
    }

    private static int argument(Random chance, char shape, Model model) {
        if (chance.nextInt(60) == 0) {
            int[] odd = {-1, -2, 0, 1, 12, 13, 20, 21, 60, 61, 99, 100, 31, 32, 33, 1 << 30,
                Integer.MAX_VALUE, Integer.MIN_VALUE, chance.nextInt()};
            return odd[chance.nextInt(odd.length)];
        }
        switch (shape) {
            case 'a': return chance.nextInt();
            case 'n': return chance.nextInt(41);
            case 'E': return chance.nextInt(16);
            case 's': return chance.nextInt(20) == 0 ? chance.nextInt(14) - 1 : chance.nextInt(model.n);
            case 'w': return model.women == 0 || chance.nextInt(20) == 0
                ? chance.nextInt(8) - 1 : chance.nextInt(model.women);
            case 'd': return chance.nextInt(3) > 0 ? chance.nextInt(12) : chance.nextInt(63) - 1;
            case 'D': return chance.nextInt(4) > 0 ? 1 + chance.nextInt(4) : chance.nextInt(23) - 1;
            case 'k': return chance.nextInt(20) == 0 ? chance.nextInt(6) - 2 : chance.nextInt(3);
            case 'm': return chance.nextInt(2) > 0 ? 1 + chance.nextInt(12) : chance.nextInt(53) - 1;
            case 'b': return chance.nextInt(1 << model.n) & chance.nextInt(1 << model.n);
            case 'r': return chance.nextInt(14);
            case 'N': return knotNumber(chance, model);
            case 'V': return chance.nextInt(3) > 0 ? chance.nextInt(4) : chance.nextInt(23) - 1;
            case 'e': return chance.nextInt(102) - 1;
            case 'g': return chance.nextInt(12) == 0 ? chance.nextInt(8) - 1 : 1 + chance.nextInt(5);
            case 't': return chance.nextInt(13) - 1;
            default: return chance.nextInt(20) == 0 ? chance.nextInt(12) - 2 : chance.nextInt(shape - '0' + 1);
        }
    }

    private static int knotNumber(Random chance, Model model) {
        if (model.words.isEmpty() || chance.nextInt(5) == 0) {
            return chance.nextInt(1000000000);
        }
        StringBuilder digits = new StringBuilder();
        while (digits.length() < 9 && chance.nextInt(6) > 0) {
            digits.append(model.words.get(chance.nextInt(model.words.size())));
        }
        digits.setLength(Math.min(9, digits.length()));
        return digits.length() == 0 ? 0 : Integer.parseInt(digits.toString());
    }

    private static int[] feeds(String text) {
        byte[] bytes = text.getBytes(StandardCharsets.ISO_8859_1);
        int many = (bytes.length + 19) / 20;
        int[] numbers = new int[5 * many + 1];
        for (int k = 0; k < 20 * many; k++) {
            int b = k < bytes.length ? bytes[k] & 255 : '?';
            numbers[k / 4] = numbers[k / 4] << 8 | b;
        }
        numbers[5 * many] = bytes.length;
        return numbers;
    }

    // ---- texts by chance

    private static String text(Random chance) {
        StringBuilder text = new StringBuilder();
        int stretches = chance.nextInt(15) == 0 ? 13 : chance.nextInt(13);
        boolean calm = chance.nextBoolean();
        for (int k = 0; k < stretches; k++) {
            int seam = chance.nextInt(8) == 0 ? 0 : chance.nextInt(calm ? 100 : 30);
            line(chance, text, "stretch", chance.nextInt(100), seam, chance.nextInt(3));
        }
        int women = stretches == 0 ? 0 : chance.nextInt(30) == 0 ? 7 : chance.nextInt(7);
        for (int k = 0; k < women; k++) {
            line(chance, text, "woman", chance.nextInt(10), chance.nextInt(stretches), chance.nextInt(calm ? 100 : 5));
        }
        if (chance.nextInt(3) > 0) {
            line(chance, text, "week", 1 + chance.nextInt(9));
        }
        if (chance.nextInt(3) > 0) {
            text.append("knots");
            int many = 1 + chance.nextInt(8);
            for (int k = 0; k < many; k++) {
                String word = "" + (chance.nextInt(3) > 0 ? chance.nextInt(30) : chance.nextInt(10000));
                text.append(' ').append(chance.nextInt(8) == 0 && word.length() < 4 ? "0" + word : word);
            }
            text.append(';');
        }
        if (chance.nextInt(3) == 0) {
            text.append("frays ").append(expr(chance, 0)).append(';');
        }
        if (chance.nextInt(3) == 0) {
            text.append("pulls ").append(expr(chance, 0)).append(';');
        }
        if (chance.nextInt(5) == 0) {
            mar(chance, text);
        }
        if (text.length() > 700) {
            text.setLength(700);
        }
        return text.toString();
    }

    private static void line(Random chance, StringBuilder text, String word, int... numbers) {
        text.append(word);
        for (int number : numbers) {
            text.append(chance.nextInt(20) == 0 ? "\n" : " ").append(number);
        }
        text.append(';');
    }

    private static String expr(Random chance, int depth) {
        String[] values = {"strain", "seam", "stitch", "beside", "women", "day"};
        int kind = chance.nextInt(depth > 5 ? 3 : 14);
        if (kind == 0) {
            return "" + (chance.nextInt(6) == 0 ? chance.nextInt(10000) : chance.nextInt(12));
        }
        if (kind <= 2) {
            return values[chance.nextInt(6)];
        }
        if (kind == 3) {
            return "not " + expr(chance, depth + 1);
        }
        if (kind == 4) {
            return "(" + expr(chance, depth + 1) + ")";
        }
        String[] joints = {"+", "-", "*", "/", "<", "=", " and ", " or "};
        String left = expr(chance, depth + 1);
        String right = expr(chance, depth + 1);
        boolean tie = chance.nextInt(3) > 0;
        return (tie ? "(" + left + ")" : left) + joints[chance.nextInt(8)] + (tie ? "(" + right + ")" : right);
    }

    private static void mar(Random chance, StringBuilder text) {
        String[] odd = {";", "(", ")", "+", "-", "<", "=", "12345", "7", "0", " not not not not ", " and ", " or ",
            "X", "\t", "" + (char) 200, " week ", " knots ", " stretch ", "strain", " frays ", "((((((", " ", "\n", "q"};
        int times = 1 + chance.nextInt(2);
        for (int k = 0; k < times && text.length() > 0; k++) {
            int at = chance.nextInt(text.length());
            int how = chance.nextInt(4);
            if (how == 0) {
                text.deleteCharAt(at);
            } else if (how == 1) {
                text.setLength(at);
            } else {
                text.insert(at, odd[chance.nextInt(odd.length)]);
            }
        }
    }

    // ---- the model

    private static final class State {
        int day;
        int[] strain;
        int[] seam;
        int[] stitch;
        int[] at;
        int[] thread;

        State copy() {
            State s = new State();
            s.day = day;
            s.strain = strain.clone();
            s.seam = seam.clone();
            s.stitch = stitch.clone();
            s.at = at.clone();
            s.thread = thread.clone();
            return s;
        }

        int openMany() {
            return (int) Arrays.stream(seam).filter(v -> v == 0).count();
        }

        int openBits() {
            int bits = 0;
            for (int i = 0; i < seam.length; i++) {
                bits += seam[i] == 0 ? 1 << i : 0;
            }
            return bits;
        }
    }

    private record Keep(State state, List<State> acts, List<int[]> seen) {
    }

    private interface Expr {
        int of(State s, int i);
    }

    private static final class Fault extends RuntimeException {
        private static final long serialVersionUID = 1L;
        final int kind;
        final int place;

        Fault(int kind, int place) {
            this.kind = kind;
            this.place = place;
        }
    }

    private record Token(String text, int place) {
        boolean isWord() {
            return text.matches("[a-z]+");
        }

        boolean isNumber() {
            return text.matches("[0-9]+");
        }
    }

    /** Tells a text by its whole row of tokens. */
    private static final class Teller {
        final List<Token> tokens = new ArrayList<>();
        int at = 0;
        final List<int[]> stretches = new ArrayList<>();
        final List<int[]> women = new ArrayList<>();
        final List<String> words = new ArrayList<>();
        int week = 7;
        Expr frays;
        Expr pulls;

        Teller(String text) {
            Matcher m = Pattern.compile("[a-z]+|[0-9]+|[^ \n]", Pattern.DOTALL).matcher(text);
            while (m.find()) {
                tokens.add(new Token(m.group(), m.start()));
            }
            tokens.add(new Token("", text.length()));
            Set<String> met = new HashSet<>();
            while (!peek().text.isEmpty()) {
                Token head = tokens.get(at++);
                boolean once = List.of("knots", "week", "frays", "pulls").contains(head.text);
                if (once && !met.add(head.text)) {
                    throw new Fault(5, head.place);
                }
                switch (head.text) {
                    case "stretch" -> {
                        check(stretches.size() < 12, 2, head);
                        stretches.add(new int[] {number(0, 99), number(0, 99), number(0, 2)});
                    }
                    case "woman" -> {
                        check(women.size() < 6, 2, head);
                        int skill = number(0, 9);
                        Token where = peek();
                        int stretch = number(0, 9999);
                        check(stretch < stretches.size(), 3, where);
                        women.add(new int[] {skill, stretch, number(0, 99)});
                    }
                    case "knots" -> {
                        do {
                            Token word = peek();
                            number(0, 9999);
                            check(words.size() < 8, 2, word);
                            check(!words.contains(word.text), 4, word);
                            words.add(word.text);
                        } while (peek().isNumber());
                    }
                    case "week" -> week = number(1, 9);
                    case "frays" -> frays = or(0);
                    case "pulls" -> pulls = or(0);
                    default -> throw new Fault(1, head.place);
                }
                sign(";");
            }
        }

        Token peek() {
            return tokens.get(at);
        }

        boolean take(String text) {
            if (peek().text.equals(text)) {
                at++;
                return true;
            }
            return false;
        }

        void sign(String text) {
            Token t = peek();
            check(take(text), 1, t);
        }

        static void check(boolean fine, int kind, Token t) {
            if (!fine) {
                throw new Fault(kind, t.place);
            }
        }

        int number(int least, int most) {
            Token t = tokens.get(at);
            check(t.isNumber(), 1, t);
            check(t.text.length() <= 4, 2, t);
            int value = Integer.parseInt(t.text);
            check(value >= least && value <= most, 2, t);
            at++;
            return value;
        }

        Expr or(int depth) {
            Token t = peek();
            if (depth > 5) {
                throw new Fault(t.isWord() || t.isNumber() || t.text.equals("(") ? 2 : 1, t.place);
            }
            Expr x = and(depth);
            while (take("or")) {
                Expr a = x;
                Expr b = and(depth);
                x = (s, i) -> a.of(s, i) != 0 | b.of(s, i) != 0 ? 1 : 0;
            }
            return x;
        }

        Expr and(int depth) {
            Expr x = not(depth, 0);
            while (take("and")) {
                Expr a = x;
                Expr b = not(depth, 0);
                x = (s, i) -> a.of(s, i) != 0 & b.of(s, i) != 0 ? 1 : 0;
            }
            return x;
        }

        Expr not(int depth, int nots) {
            Token t = peek();
            if (take("not")) {
                check(nots < 6, 2, t);
                Expr a = not(depth, nots + 1);
                return (s, i) -> a.of(s, i) == 0 ? 1 : 0;
            }
            Expr a = sum(depth);
            if (take("<")) {
                Expr b = sum(depth);
                return (s, i) -> a.of(s, i) < b.of(s, i) ? 1 : 0;
            }
            if (take("=")) {
                Expr b = sum(depth);
                return (s, i) -> a.of(s, i) == b.of(s, i) ? 1 : 0;
            }
            return a;
        }

        Expr sum(int depth) {
            Expr x = product(depth);
            while (true) {
                Expr a = x;
                if (take("+")) {
                    Expr b = product(depth);
                    x = (s, i) -> a.of(s, i) + b.of(s, i);
                } else if (take("-")) {
                    Expr b = product(depth);
                    x = (s, i) -> a.of(s, i) - b.of(s, i);
                } else {
                    return x;
                }
            }
        }

        Expr product(int depth) {
            Expr x = part(depth);
            while (true) {
                Expr a = x;
                if (take("*")) {
                    Expr b = part(depth);
                    x = (s, i) -> a.of(s, i) * b.of(s, i);
                } else if (take("/")) {
                    Expr b = part(depth);
                    x = (s, i) -> b.of(s, i) == 0 ? 0 : (int) ((long) a.of(s, i) / b.of(s, i));
                } else {
                    return x;
                }
            }
        }

        Expr part(int depth) {
            Token t = peek();
            if (t.isNumber()) {
                int value = number(0, 9999);
                return (s, i) -> value;
            }
            if (take("(")) {
                Expr x = or(depth + 1);
                sign(")");
                return x;
            }
            check(t.isWord(), 1, t);
            at++;
            switch (t.text) {
                case "strain": return (s, i) -> s.strain[i];
                case "seam": return (s, i) -> s.seam[i];
                case "stitch": return (s, i) -> s.stitch[i];
                case "beside": return Model::beside;
                case "women": return (s, i) -> (int) Arrays.stream(s.at).filter(v -> v == i).count();
                case "day": return (s, i) -> s.day;
                default: throw new Fault(3, t.place);
            }
        }
    }

    private static final class Model {
        StringBuilder tape = new StringBuilder();
        String lastText = "";
        int faultPlace = -1;
        int[] status = new int[3];
        int n;
        int women;
        int week;
        int[] skill;
        List<String> words;
        Expr frays;
        Expr pulls;
        State state;
        Deque<State> acts = new ArrayDeque<>();
        List<int[]> seen = new ArrayList<>();
        Keep kept;

        Model() {
            be(new Teller(""));
        }

        void be(Teller t) {
            while (t.stretches.size() < 3) {
                t.stretches.add(new int[] {0, 50, 0});
            }
            n = t.stretches.size();
            women = t.women.size();
            week = t.week;
            words = t.words;
            frays = t.frays;
            pulls = t.pulls;
            state = new State();
            state.strain = t.stretches.stream().mapToInt(v -> v[0]).toArray();
            state.seam = t.stretches.stream().mapToInt(v -> v[1]).toArray();
            state.stitch = t.stretches.stream().mapToInt(v -> v[2]).toArray();
            skill = t.women.stream().mapToInt(v -> v[0]).toArray();
            state.at = t.women.stream().mapToInt(v -> v[1]).toArray();
            state.thread = t.women.stream().mapToInt(v -> v[2]).toArray();
            acts.clear();
            seen = new ArrayList<>();
            kept = null;
        }

        static int beside(State s, int i) {
            int n = s.strain.length;
            return s.strain[(i + 1) % n] + s.strain[(i + n - 1) % n];
        }

        static int keep(int x, int least, int most) {
            return x < least ? least : x > most ? most : x;
        }

        int pullsOf(State s, int i) {
            if (s.seam[i] == 0) {
                return 0;
            }
            return keep(pulls == null ? (beside(s, i) - s.strain[i] - s.strain[i]) / 9 : pulls.of(s, i), -9, 9);
        }

        int fraysOf(State s, int i) {
            if (s.seam[i] == 0) {
                return 0;
            }
            int[] by = {1, 2, 3};
            return keep(frays == null ? s.strain[i] / 9 / by[s.stitch[i]] : frays.of(s, i), 0, 20);
        }

        void tear(State s, int i, int much) {
            if (s.seam[i] == 0) {
                return;
            }
            s.seam[i] = keep(s.seam[i] - much, 0, 99);
            if (s.seam[i] == 0) {
                for (int b : new int[] {(i + 1) % n, (i + n - 1) % n}) {
                    if (s.seam[b] > 0) {
                        s.strain[b] = keep(s.strain[b] + s.strain[i] / 2, 0, 99);
                    }
                }
                s.strain[i] = 0;
            }
        }

        boolean mend(State s, int w) {
            if (s.thread[w] == 0) {
                return false;
            }
            s.thread[w]--;
            s.seam[s.at[w]] = keep(s.seam[s.at[w]] + 2 * skill[w] + 3, 0, 99);
            return true;
        }

        State day(State s) {
            int[] more = new int[n];
            for (int i = 0; i < n; i++) {
                more[i] = pullsOf(s, i);
            }
            for (int i = 0; i < n; i++) {
                s.strain[i] = keep(s.strain[i] + more[i], 0, 99);
            }
            for (int i = 0; i < n; i++) {
                tear(s, i, fraysOf(s, i));
            }
            if (s.day % week == week - 1) {
                for (int w = 0; w < women; w++) {
                    mend(s, w);
                    s.at[w] = (s.at[w] + 1) % n;
                }
            }
            s.day++;
            return s;
        }

        State behind(State from, int days) {
            State s = from.copy();
            for (int k = 0; k < days; k++) {
                day(s);
            }
            return s;
        }

        static int sum(int[] row) {
            return Arrays.stream(row).sum();
        }

        int steps(int a, int b) {
            return Math.min(Math.floorMod(a - b, n), Math.floorMod(b - a, n));
        }

        long answer(int[] c) {
            try {
                return answerOf(c);
            } catch (NoSuchElementException e) {
                return NO_SUCH;
            } catch (IllegalArgumentException e) {
                return ILLEGAL;
            }
        }

        void stretchIs(int i) {
            such(i >= 0 && i < n);
        }

        void womanIs(int w) {
            such(w >= 0 && w < women);
        }

        void such(boolean fine) {
            if (!fine) {
                throw new NoSuchElementException();
            }
        }

        void whatIs(int what, int most) {
            such(what >= 0 && what <= most);
        }

        void in(int x, int least, int most) {
            if (x < least || x > most) {
                throw new IllegalArgumentException();
            }
        }

        long refuse(int which) {
            status[which]++;
            return -1;
        }

        State act() {
            acts.addLast(state.copy());
            if (acts.size() > 40) {
                acts.removeFirst();
            }
            return state;
        }

        long answerOf(int[] c) {
            switch (c[0]) {
                case 0: return feed(c);
                case 1: return ring(c[1]);
                case 2: return faultPlace;
                case 3: return count(c[1]);
                case 4:
                    stretchIs(c[1]);
                    whatIs(c[2], 5);
                    return new int[] {state.strain[c[1]], state.seam[c[1]], state.stitch[c[1]], womenAt(c[1]),
                        fraysOf(state, c[1]), pullsOf(state, c[1])}[c[2]];
                case 5:
                    womanIs(c[1]);
                    whatIs(c[2], 2);
                    return new int[] {skill[c[1]], state.at[c[1]], state.thread[c[1]]}[c[2]];
                case 6:
                    if (c[1] < 1 || c[1] > 20 || state.day + c[1] > 999) {
                        return refuse(1);
                    }
                    act();
                    state = behind(state, c[1]);
                    return state.day;
                case 7:
                    womanIs(c[1]);
                    if (state.thread[c[1]] == 0) {
                        return refuse(1);
                    }
                    mend(act(), c[1]);
                    return state.seam[state.at[c[1]]];
                case 8:
                    womanIs(c[1]);
                    stretchIs(c[2]);
                    if (state.at[c[1]] == c[2]) {
                        return refuse(1);
                    }
                    act().at[c[1]] = c[2];
                    return acts.peekLast().at[c[1]];
                case 9:
                    stretchIs(c[1]);
                    if (c[2] < 0 || c[2] > 2 || state.stitch[c[1]] == c[2]) {
                        return refuse(1);
                    }
                    act().stitch[c[1]] = c[2];
                    return acts.peekLast().stitch[c[1]];
                case 10:
                    womanIs(c[1]);
                    if (c[2] < 1 || c[2] > 50) {
                        return refuse(1);
                    }
                    act().thread[c[1]] = keep(state.thread[c[1]] + c[2], 0, 99);
                    return state.thread[c[1]];
                case 11:
                    stretchIs(c[1]);
                    if (c[2] < 1 || c[2] > 50 || state.seam[c[1]] == 0) {
                        return refuse(1);
                    }
                    tear(act(), c[1], c[2]);
                    return state.seam[c[1]];
                case 12:
                    if (acts.isEmpty()) {
                        return -1;
                    }
                    state = acts.removeLast();
                    return acts.size();
                default: return c[0] < 25 ? aheadOf(c) : restOf(c);
            }
        }

        long feed(int[] c) {
            if (tape.length() + 20 > 700) {
                return -1;
            }
            for (int k = 1; k <= 5; k++) {
                for (int b = 3; b >= 0; b--) {
                    tape.append((char) (c[k] >> 8 * b & 255));
                }
            }
            return tape.length();
        }

        long ring(int many) {
            in(many, 0, tape.length());
            String text = tape.substring(0, many);
            tape.setLength(0);
            lastText = text;
            try {
                be(new Teller(text));
                faultPlace = -1;
                return 0;
            } catch (Fault f) {
                faultPlace = f.place;
                status[0]++;
                return f.kind;
            }
        }

        int womenAt(int i) {
            int bits = 0;
            for (int w = 0; w < women; w++) {
                bits += state.at[w] == i ? 1 << w : 0;
            }
            return bits;
        }

        long count(int what) {
            whatIs(what, 14);
            int idle = 0;
            for (int w = 0; w < women; w++) {
                boolean is = state.thread[w] == 0;
                for (int v = 0; v < w; v++) {
                    is |= state.at[v] == state.at[w];
                }
                idle += is ? 1 << w : 0;
            }
            return new int[] {n, women, words.size(), week, state.day, state.openBits(), sum(state.seam),
                sum(state.thread), idle, acts.size(), seen.size(), tape.length(), status[0], status[1], status[2]}[what];
        }

        long aheadOf(int[] c) {
            switch (c[0]) {
                case 13:
                    stretchIs(c[1]);
                    whatIs(c[3], 1);
                    in(c[2], 0, 60);
                    return (c[3] == 0 ? behind(state, c[2]).strain : behind(state, c[2]).seam)[c[1]];
                case 14:
                    whatIs(c[2], 3);
                    in(c[1], 0, 60);
                    State s = behind(state, c[1]);
                    int[] sorted = s.strain.clone();
                    Arrays.sort(sorted);
                    int tightest = 0;
                    while (s.strain[tightest] < sorted[n - 1]) {
                        tightest++;
                    }
                    return new int[] {s.openBits(), tightest, sorted[n - 1] - sorted[0],
                        sum(state.thread) - sum(s.thread)}[c[2]];
                case 15:
                    stretchIs(c[1]);
                    for (int d = 0; d <= 60; d++) {
                        if (behind(state, d).seam[c[1]] == 0) {
                            return d;
                        }
                    }
                    return -1;
                case 16: return first();
                case 17:
                    womanIs(c[1]);
                    whatIs(c[3], 1);
                    in(c[2], 0, 60);
                    return (c[3] == 0 ? behind(state, c[2]).at : behind(state, c[2]).thread)[c[1]];
                case 18:
                    for (int d = 0; d <= 60; d++) {
                        if (sum(behind(state, d).thread) == 0) {
                            return d;
                        }
                    }
                    return -1;
                case 19: return toHold(c[1], c[2]);
                case 20: return toSend(c[1], c[2], c[3]);
                case 21: return bestStitch(c[1], c[2]);
                case 22: return sent(c[1], c[2]);
                case 23: return closed(c[1]);
                default: return tight(c[1], c[2]);
            }
        }

        long first() {
            for (int d = 1; d <= 60; d++) {
                State s = behind(state, d);
                for (int i = 0; i < n; i++) {
                    if (state.seam[i] > 0 && s.seam[i] == 0) {
                        return i;
                    }
                }
            }
            return -1;
        }

        long toHold(int stretch, int days) {
            stretchIs(stretch);
            in(days, 1, 60);
            for (int more = 0; more <= 99; more++) {
                State s = state.copy();
                s.seam[stretch] = keep(s.seam[stretch] + more, 0, 99);
                boolean holds = true;
                for (int d = 1; d <= days; d++) {
                    holds &= day(s).seam[stretch] > 0;
                }
                if (holds) {
                    return more;
                }
            }
            return -1;
        }

        long toSend(int woman, int days, int what) {
            womanIs(woman);
            whatIs(what, 1);
            in(days, 1, 60);
            int[] open = new int[n];
            for (int i = 0; i < n; i++) {
                State s = state.copy();
                s.at[woman] = i;
                open[i] = behind(s, days).openMany();
            }
            int fewest = Arrays.stream(open).min().getAsInt();
            int which = 0;
            while (open[which] > fewest) {
                which++;
            }
            return what == 0 ? which : fewest;
        }

        long bestStitch(int stretch, int days) {
            stretchIs(stretch);
            in(days, 1, 60);
            int[] seam = new int[3];
            for (int k = 0; k < 3; k++) {
                State s = state.copy();
                s.stitch[stretch] = k;
                seam[k] = behind(s, days).seam[stretch];
            }
            return seam[0] >= seam[1] && seam[0] >= seam[2] ? 0 : seam[1] >= seam[2] ? 1 : 2;
        }

        long sent(int some, int stretch) {
            in(some, 0, (1 << n) - 1);
            in(Integer.bitCount(some), 0, 6);
            such(stretch == -1 || stretch >= 0 && stretch < n && (some & 1 << stretch) != 0);
            List<Integer> goals = new ArrayList<>();
            for (int i = 0; i < n; i++) {
                if ((some & 1 << i) != 0) {
                    goals.add(i);
                }
            }
            if (goals.size() > women) {
                return -2;
            }
            int[] best = {Integer.MAX_VALUE};
            List<Integer> row = new ArrayList<>();
            List<Integer> bestRow = new ArrayList<>();
            tryRows(goals, row, 0, best, bestRow);
            return stretch == -1 ? best[0] : bestRow.get(goals.indexOf(stretch));
        }

        void tryRows(List<Integer> goals, List<Integer> row, int steps, int[] best, List<Integer> bestRow) {
            if (row.size() == goals.size()) {
                if (steps < best[0]) {
                    best[0] = steps;
                    bestRow.clear();
                    bestRow.addAll(row);
                }
                return;
            }
            for (int w = 0; w < women; w++) {
                if (!row.contains(w)) {
                    int more = steps(state.at[w], goals.get(row.size()));
                    row.add(w);
                    tryRows(goals, row, steps + more, best, bestRow);
                    row.remove(row.size() - 1);
                }
            }
        }

        long closed(int what) {
            whatIs(what, 1);
            for (int length = n; length > 0; length--) {
                for (int start = 0; start < n; start++) {
                    boolean all = true;
                    for (int k = 0; k < length; k++) {
                        all &= state.seam[(start + k) % n] > 0;
                    }
                    if (all) {
                        return what == 0 ? length : start;
                    }
                }
            }
            return what == 0 ? 0 : -1;
        }

        long tight(int many, int what) {
            whatIs(what, 1);
            in(many, 1, 12);
            int most = -1;
            int which = -1;
            for (int start = 0; start < n && many <= n; start++) {
                int sum = 0;
                for (int k = 0; k < many; k++) {
                    sum += state.strain[(start + k) % n];
                }
                if (sum > most) {
                    most = sum;
                    which = start;
                }
            }
            return what == 0 ? most : which;
        }

        long restOf(int[] c) {
            switch (c[0]) {
                case 25:
                    whatIs(c[2], 1);
                    in(c[1], 0, 999999999);
                    List<Integer> lengths = new ArrayList<>();
                    read("" + c[1], 0, lengths);
                    return c[2] == 0 ? lengths.size() : lengths.stream().mapToInt(v -> v).min().orElse(-1);
                case 26:
                    stretchIs(c[1]);
                    if (seen.size() == 8 || c[2] < 0 || c[2] > 20 || c[3] < 0 || c[3] > 99) {
                        return refuse(2);
                    }
                    seen.add(new int[] {c[1], c[2], c[3]});
                    return seen.size();
                case 27:
                    seen.clear();
                    return 0;
                case 28: return torn(c[1]);
                case 29: return look(c[1]);
                case 30: return gales(c[1], c[2]);
                case 31: return game(c[1], c[2], c[3]);
                case 32: return years(c[1], c[2], c[3]);
                case 33:
                    for (int d = 1; d <= 60; d++) {
                        State a = behind(state, d - 1);
                        State b = behind(state, d);
                        if (Arrays.equals(a.strain, b.strain) && Arrays.equals(a.seam, b.seam)) {
                            return d;
                        }
                    }
                    return -1;
                case 34:
                    stretchIs(c[1]);
                    for (int far = 0; far <= n; far++) {
                        for (int w = 0; w < women; w++) {
                            if (steps(state.at[w], c[1]) == far) {
                                return w;
                            }
                        }
                    }
                    return -1;
                case 35:
                    stretchIs(c[1]);
                    stretchIs(c[2]);
                    return steps(c[1], c[2]);
                case 36: return rows(state.openBits());
                case 37: return worst(c[1]);
                case 38:
                    womanIs(c[1]);
                    womanIs(c[2]);
                    for (int d = 0; d <= 60 && c[1] != c[2]; d++) {
                        if (behind(state, d).at[c[1]] == behind(state, d).at[c[2]]) {
                            return d;
                        }
                    }
                    return -1;
                case 39:
                    in(c[1], 0, 60);
                    int bits = 0;
                    for (int w = 0; w < women; w++) {
                        bits += behind(state, c[1]).thread[w] == 0 ? 1 << w : 0;
                    }
                    return bits;
                case 40:
                    in(c[1], 0, 99);
                    int loaded = 0;
                    for (int i = 0; i < n; i++) {
                        loaded += state.strain[i] >= c[1] ? 1 << i : 0;
                    }
                    return rows(loaded);
                case 41:
                    kept = new Keep(state.copy(), copyAll(acts), new ArrayList<>(seen));
                    return 0;
                default:
                    if (kept == null) {
                        return 0;
                    }
                    state = kept.state.copy();
                    acts = new ArrayDeque<>(copyAll(kept.acts));
                    seen = new ArrayList<>(kept.seen);
                    return 1;
            }
        }

        static List<State> copyAll(Iterable<State> states) {
            List<State> copies = new ArrayList<>();
            states.forEach(s -> copies.add(s.copy()));
            return copies;
        }

        void read(String digits, int words, List<Integer> lengths) {
            if (digits.isEmpty()) {
                lengths.add(words);
            }
            for (String word : this.words) {
                if (digits.startsWith(word)) {
                    read(digits.substring(word.length()), words + 1, lengths);
                }
            }
        }

        /** Of a ring with a gap at its end; a full one is one row. */
        int rows(int bits) {
            if (bits == (1 << n) - 1) {
                return 1;
            }
            int gap = 0;
            while ((bits & 1 << gap) != 0) {
                gap++;
            }
            int rows = 0;
            boolean inside = false;
            for (int k = 1; k <= n; k++) {
                boolean is = (bits & 1 << (gap + k) % n) != 0;
                rows += is && !inside ? 1 : 0;
                inside = is;
            }
            return rows;
        }

        boolean isSeen(State from) {
            for (int[] one : seen) {
                if (behind(from, one[1]).seam[one[0]] != one[2]) {
                    return false;
                }
            }
            return true;
        }

        List<Integer> tears() {
            List<Integer> tears = new ArrayList<>();
            for (int i = 0; i < n; i++) {
                for (int much = 1; much <= 50; much++) {
                    if (state.seam[i] == 0) {
                        continue;
                    }
                    State s = state.copy();
                    tear(s, i, much);
                    if (isSeen(s)) {
                        tears.add(100 * i + much);
                    }
                }
            }
            return tears;
        }

        long torn(int what) {
            whatIs(what, 2);
            if (what == 2) {
                return isSeen(state) ? 1 : 0;
            }
            List<Integer> tears = tears();
            return what == 0 ? tears.size() : tears.isEmpty() ? -1 : tears.get(0);
        }

        long look(int what) {
            whatIs(what, 1);
            List<Set<Integer>> seams = new ArrayList<>();
            for (int i = 0; i < n; i++) {
                seams.add(new HashSet<>());
            }
            for (int t : tears()) {
                State s = state.copy();
                tear(s, t / 100, t % 100);
                s = behind(s, 5);
                for (int i = 0; i < n; i++) {
                    seams.get(i).add(s.seam[i]);
                }
            }
            int most = seams.stream().mapToInt(Set::size).max().getAsInt();
            if (what == 1) {
                return most;
            }
            int which = 0;
            while (seams.get(which).size() < most) {
                which++;
            }
            return most == 0 ? -1 : which;
        }

        long gales(int days, int tenths) {
            in(days, 1, 5);
            in(tenths, 0, 10);
            return blow(state.copy(), days, tenths);
        }

        long blow(State s, int days, int tenths) {
            if (days == 0) {
                return (s.openBits() & ~state.openBits()) != 0 ? 1 : 0;
            }
            State gale = s.copy();
            for (int i = 0; i < n; i++) {
                gale.strain[i] = gale.seam[i] > 0 ? keep(gale.strain[i] + 15, 0, 99) : gale.strain[i];
            }
            return tenths * blow(day(gale), days - 1, tenths) + (10 - tenths) * blow(day(s.copy()), days - 1, tenths);
        }

        int[] gain(int woman, int other, int a, int b) {
            State s = state.copy();
            for (int w = 0; w < women; w++) {
                if (w == woman || w == other) {
                    int choice = w == woman ? a : b;
                    s.at[w] = (s.at[w] + choice) % n;
                    mend(s, w);
                }
            }
            s = behind(s, 5);
            return new int[] {s.seam[state.at[woman]] / 10 - a, s.seam[state.at[other]] / 10 - b};
        }

        long game(int woman, int other, int what) {
            womanIs(woman);
            womanIs(other);
            whatIs(what, 1);
            in(woman == other ? 1 : 0, 0, 0);
            List<Integer> rest = new ArrayList<>();
            for (int a = 0; a < 2; a++) {
                for (int b = 0; b < 2; b++) {
                    int[] gain = gain(woman, other, a, b);
                    if (gain(woman, other, 1 - a, b)[0] <= gain[0] && gain(woman, other, a, 1 - b)[1] <= gain[1]) {
                        rest.add(10 * a + b);
                    }
                }
            }
            return what == 0 ? rest.size() : rest.isEmpty() ? -1 : rest.get(0);
        }

        private int seed;

        int draw(int of) {
            seed = seed * 1103515245 + 12345;
            return (seed >> 16 & 32767) % of;
        }

        long years(int from, int days, int what) {
            whatIs(what, 2);
            in(days, 0, 60);
            seed = from;
            State s = state.copy();
            for (int k = 0; k < days; k++) {
                switch (draw(6)) {
                    case 0 -> {
                        int i = draw(n);
                        tear(s, i, draw(20) + 1);
                    }
                    case 1 -> {
                        int i = draw(n);
                        s.strain[i] = keep(s.strain[i] + 9, 0, 99);
                    }
                    case 2 -> {
                        if (women > 0) {
                            int w = draw(women);
                            s.thread[w] = keep(s.thread[w] + 5, 0, 99);
                        }
                    }
                    default -> {
                    }
                }
                day(s);
            }
            return new int[] {s.openMany(), sum(s.seam), sum(s.thread)}[what];
        }

        long worst(int much) {
            in(much, 1, 50);
            int most = -1;
            int which = -1;
            for (int i = 0; i < n; i++) {
                if (state.seam[i] > 0) {
                    State s = state.copy();
                    tear(s, i, much);
                    int open = behind(s, 7).openMany();
                    if (open > most) {
                        most = open;
                        which = i;
                    }
                }
            }
            return which;
        }
    }
}
