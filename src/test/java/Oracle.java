import java.util.ArrayList;
import java.util.Arrays;
import java.util.Collections;
import java.util.Comparator;
import java.util.HashMap;
import java.util.List;
import java.util.Map;
import java.util.Set;
import java.util.TreeSet;
import java.util.function.Predicate;
import java.util.regex.Matcher;
import java.util.regex.Pattern;

/** The document once more, written apart from the class: plain and slow, for runs to be compared with. */
final class Oracle {
    private static final Set<String> WORDS = Set.of("sketch", "in", "hole", "rank", "var", "must", "if",
            "else", "loop", "while", "most", "let", "spec");
    private static final Pattern TOKEN = Pattern.compile("[a-z]+|[0-9]+|[;=&|^<+\\-*/%~(){}]");

    private record Token(String text, int place) { }

    private interface Expression { int of(Map<String, Integer> env); }

    private interface Statement { void run(Run run); }

    private static final class Stop extends RuntimeException {
        private static final long serialVersionUID = 1;
    }

    private static final class Refuted extends RuntimeException {
        private static final long serialVersionUID = 1;
        final int verdict;
        Refuted(int verdict) { super(null, null, false, false); this.verdict = verdict; }
    }

    private static final class Run {
        final Map<String, Integer> env = new HashMap<>();
        int unroll;
        int steps;
        int verdict;
        void step() {
            if (steps == 120) throw new Refuted(5);
            steps++;
        }
    }

    private record Hole(String name, int bits, int rank) { }

    private static final class Sketch {
        int width;
        final List<Hole> ins = new ArrayList<>();
        final List<Hole> holes = new ArrayList<>();
        final List<String> vars = new ArrayList<>();
        int statements;
        List<Statement> body;
        Expression spec;
        List<Token> shown;
        static int bits(List<Hole> of) { return of.stream().mapToInt(Hole::bits).sum(); }
    }

    // ---- reading

    private static final class Reader {
        final List<Token> tokens = new ArrayList<>();
        final Sketch sketch = new Sketch();
        final Map<String, String> there = new HashMap<>();
        /** Every fault met, {place, kind}; reading goes on behind all but those of kind 1. */
        final List<int[]> faults = new ArrayList<>();
        int at = 0;

        Reader(String text) {
            Matcher matcher = TOKEN.matcher(text);
            int place = 0;
            while (place < text.length()) {
                char c = text.charAt(place);
                if (c == 32 || c == 10) { place++; continue; }
                matcher.region(place, text.length());
                if (!matcher.lookingAt()) { tokens.add(new Token("BAD", place)); return; }
                String found = matcher.group();
                boolean tooLong = Character.isLetter(c) ? found.length() > 6
                        : Character.isDigit(c) && found.length() > 5;
                tokens.add(new Token(tooLong ? "BAD" : found, place));
                if (tooLong) return;
                place += found.length();
            }
            tokens.add(new Token("END", text.length()));
        }

        int[] firstFault() {
            try { whole(); } catch (Stop stop) { /* the fault is in the list */ }
            return faults.stream().min(Comparator.<int[]>comparingInt(f -> f[0]).thenComparingInt(f -> f[1]))
                    .orElse(null);
        }

        String peek() { return tokens.get(at).text; }
        void fault(int place, int kind) { faults.add(new int[] {place, kind}); }
        RuntimeException stop() { fault(tokens.get(at).place, 1); return new Stop(); }
        int place() { return tokens.get(at).place; }

        boolean isName(String t) { return t.matches("[a-z]+") && !WORDS.contains(t); }

        Token expect(Predicate<String> wanted) {
            if (!wanted.test(peek())) throw stop();
            return tokens.get(at++);
        }
        Token expect(String wanted) { return expect(wanted::equals); }

        int number(int least, int most) {
            Token t = expect(x -> x.matches("[0-9]+"));
            int v = Integer.parseInt(t.text);
            if (v < least || v > most) fault(t.place, 4);
            return v;
        }

        String give(String kind) {
            Token t = expect(this::isName);
            if (there.containsKey(t.text)) fault(t.place, 3);
            return t.text;
        }

        void whole() {
            expect("sketch");
            sketch.width = number(1, 16);
            expect(";");
            while (List.of("in", "hole", "var").contains(peek())) line();
            int from = at;
            sketch.body = statements(0, 0);
            expect("spec");
            sketch.spec = expression(0);
            expect(";");
            sketch.shown = new ArrayList<>(tokens.subList(from, at));
            expect("END");
        }

        void line() {
            Token word = tokens.get(at++);
            if (word.text.equals("var")) {
                if (sketch.vars.size() >= 4) fault(word.place, 5);
                String name = give("var");
                there.put(name, "var");
                sketch.vars.add(name);
                expect(";");
                return;
            }
            List<Hole> list = word.text.equals("in") ? sketch.ins : sketch.holes;
            if (list.size() >= (word.text.equals("in") ? 3 : 5)) fault(word.place, 5);
            String name = give(word.text);
            there.put(name, word.text);
            int place = place();
            int bits = number(1, 6);
            if (bits > sketch.width) fault(place, 4);
            if (Sketch.bits(list) + bits > 7) fault(place, 5);
            int rank = 1;
            if (word.text.equals("hole") && peek().equals("rank")) {
                at++;
                rank = number(0, 9);
            }
            list.add(new Hole(name, bits, rank));
            expect(";");
        }

        List<Statement> statements(int braces, int lets) {
            List<Statement> all = new ArrayList<>();
            while (isName(peek()) || List.of("must", "if", "loop", "while", "let").contains(peek()))
                all.add(statement(braces, lets));
            return all;
        }

        List<Statement> braced(int braces, int lets) {
            Token open = expect("{");
            if (braces >= 4) fault(open.place, 5);
            List<Statement> inner = statements(braces + 1, lets);
            expect("}");
            return inner;
        }

        static void all(List<Statement> statements, Run run) {
            for (Statement s : statements) { run.step(); s.run(run); }
        }

        Statement statement(int braces, int lets) {
            Token first = tokens.get(at++);
            sketch.statements++;
            if (sketch.statements > 24) fault(first.place, 5);
            switch (first.text) {
                case "must": {
                    Expression e = expression(0);
                    expect(";");
                    return run -> { if (e.of(run.env) == 0) throw new Refuted(2); };
                }
                case "if": {
                    Expression e = expression(0);
                    List<Statement> then = braced(braces, lets);
                    List<Statement> other = new ArrayList<>();
                    if (peek().equals("else")) { at++; other.addAll(braced(braces, lets)); }
                    return run -> all(e.of(run.env) != 0 ? then : other, run);
                }
                case "loop": {
                    int times = number(1, 9);
                    List<Statement> inner = braced(braces, lets);
                    return run -> { for (int i = 0; i < times; i++) { run.step(); all(inner, run); } };
                }
                case "while": {
                    Expression e = expression(0);
                    expect("most");
                    int told = number(1, 9);
                    List<Statement> inner = braced(braces, lets);
                    return run -> {
                        int most = run.unroll > 0 ? run.unroll : told;
                        int times = 0;
                        while (e.of(run.env) != 0) {
                            if (times == most) throw new Refuted(4);
                            times++;
                            run.step();
                            all(inner, run);
                        }
                    };
                }
                case "let": {
                    if (lets >= 3) fault(first.place, 5);
                    String name = give("let");
                    expect("=");
                    Expression e = expression(0);
                    String hidden = there.put(name, "let");
                    List<Statement> inner = braced(braces, lets + 1);
                    if (hidden == null) there.remove(name); else there.put(name, hidden);
                    return run -> {
                        run.env.put(name, e.of(run.env));
                        all(inner, run);
                        run.env.remove(name);
                    };
                }
                default: {
                    String kind = there.getOrDefault(first.text, "");
                    if (!kind.equals("var") && !kind.equals("let")) fault(first.place, 2);
                    expect("=");
                    Expression e = expression(0);
                    expect(";");
                    return run -> run.env.put(first.text, e.of(run.env));
                }
            }
        }

        Expression low(Expression e) {
            return env -> e.of(env) & ((1 << sketch.width) - 1);
        }

        Expression expression(int open) {
            Expression left = and(open);
            while (peek().equals("|") || peek().equals("^")) {
                boolean or = tokens.get(at++).text.equals("|");
                Expression a = left, b = and(open);
                left = env -> or ? a.of(env) | b.of(env) : a.of(env) ^ b.of(env);
            }
            return left;
        }

        Expression and(int open) {
            Expression left = test(open);
            while (peek().equals("&")) {
                at++;
                Expression a = left, b = test(open);
                left = env -> a.of(env) & b.of(env);
            }
            return left;
        }

        Expression test(int open) {
            Expression a = sum(open);
            if (peek().equals("=")) {
                at++;
                Expression b = sum(open);
                return env -> a.of(env) == b.of(env) ? 1 : 0;
            }
            if (peek().equals("<")) {
                at++;
                Expression b = sum(open);
                return env -> a.of(env) < b.of(env) ? 1 : 0;
            }
            return a;
        }

        Expression sum(int open) {
            Expression left = product(open);
            while (peek().equals("+") || peek().equals("-")) {
                boolean plus = tokens.get(at++).text.equals("+");
                Expression a = left, b = product(open);
                left = low(env -> plus ? a.of(env) + b.of(env) : a.of(env) - b.of(env));
            }
            return left;
        }

        Expression product(int open) {
            Expression left = unary(open);
            while (List.of("*", "/", "%").contains(peek())) {
                String op = tokens.get(at++).text;
                Expression a = left, b = unary(open);
                left = low(env -> {
                    int x = a.of(env), y = b.of(env);
                    if (op.equals("*")) return (int) ((long) x * y & 0xffff);
                    if (y == 0) throw new Refuted(3);
                    return op.equals("/") ? x / y : x % y;
                });
            }
            return left;
        }

        Expression unary(int open) {
            if (!peek().equals("~") && !peek().equals("-")) return part(open);
            Token sign = tokens.get(at++);
            if (open >= 6) fault(sign.place, 5);
            Expression e = unary(open + 1);
            return low(sign.text.equals("~") ? env -> ~e.of(env) : env -> -e.of(env));
        }

        Expression part(int open) {
            Token t = tokens.get(at);
            if (t.text.matches("[0-9]+")) {
                at++;
                int v = Integer.parseInt(t.text);
                return low(env -> v);
            }
            if (isName(t.text)) {
                at++;
                if (!there.containsKey(t.text)) fault(t.place, 2);
                return env -> env.get(t.text);
            }
            if (!t.text.equals("(")) throw stop();
            at++;
            if (open >= 6) fault(t.place, 5);
            Expression e = expression(open + 1);
            expect(")");
            return e;
        }
    }

    // ---- the object

    private String tape = "";
    private Sketch sketch = null;
    private int[] pins;
    private final List<Integer> kept = new ArrayList<>();
    private int unroll;
    private int order;
    private int state;
    private int current;

    int feed(int... numbers) {
        if (tape.length() + 20 > 800) return -1;
        StringBuilder more = new StringBuilder(tape);
        for (int number : numbers)
            for (int i = 3; i >= 0; i--) more.append((char) (number >> 8 * i & 0xff));
        tape = more.toString();
        return tape.length();
    }

    int sketch(int n) {
        if (n < 0 || n > tape.length()) return -1;
        Reader reader = new Reader(tape.substring(0, n));
        tape = "";
        int[] fault = reader.firstFault();
        if (fault != null) return -2 - (8 * fault[0] + fault[1]);
        sketch = reader.sketch;
        pins = new int[sketch.holes.size()];
        Arrays.fill(pins, -1);
        kept.clear();
        ran.clear();
        unroll = 0;
        order = 0;
        seek();
        return sketch.statements;
    }

    private void seek() { state = 0; current = -1; }

    private boolean none() { return sketch == null; }
    private int guesses() { return none() ? 0 : 1 << Sketch.bits(sketch.holes); }
    private int inputs() { return none() ? 0 : 1 << Sketch.bits(sketch.ins); }
    private boolean noGuess(int g) { return g < 0 || g >= guesses(); }
    private boolean noInput(int i) { return i < 0 || i >= inputs(); }
    private boolean noHole(int k) { return none() || k < 0 || k >= sketch.holes.size(); }

    private static int[] split(int number, List<Hole> parts) {
        int total = Sketch.bits(parts);
        StringBuilder bits = new StringBuilder(Integer.toBinaryString(number));
        while (bits.length() < total) bits.insert(0, '0');
        int[] values = new int[parts.size()];
        int from = 0;
        for (int k = 0; k < values.length; k++) {
            int to = from + parts.get(k).bits;
            values[k] = Integer.parseInt(bits.substring(from, to), 2);
            from = to;
        }
        return values;
    }

    int has(int what) {
        if (none() || what < 0 || what > 6) return -1;
        return new int[] {sketch.width, sketch.ins.size(), sketch.holes.size(), sketch.vars.size(),
            sketch.statements, Sketch.bits(sketch.ins), Sketch.bits(sketch.holes)}[what];
    }

    int hole(int k, int what) {
        if (noHole(k) || what < 0 || what > 2) return -1;
        return what == 0 ? sketch.holes.get(k).bits : what == 1 ? sketch.holes.get(k).rank : pins[k];
    }

    int value(int g, int k) { return noGuess(g) || noHole(k) ? -1 : split(g, sketch.holes)[k]; }

    int cost(int g) {
        if (noGuess(g)) return -1;
        int sum = 0;
        for (int k = 0; k < sketch.holes.size(); k++) sum += sketch.holes.get(k).rank * value(g, k);
        return sum;
    }

    private List<Integer> asTheyGo() {
        List<Integer> all = new ArrayList<>();
        for (int g = 0; g < guesses(); g++) all.add(g);
        all.sort(Comparator.<Integer>comparingInt(this::cost).thenComparingInt(g -> g));
        return all;
    }

    /** null: the call throws NoSuchElementException. */
    Integer ranked(int i) { return i < 0 || i >= guesses() ? null : asTheyGo().get(i); }

    /** Runs by guess, input and unroll, for a sketch; without it the random runs take hours. */
    private final Map<List<Integer>, Run> ran = new HashMap<>();

    private Run run(int g, int input) {
        return ran.computeIfAbsent(List.of(g, input, unroll), key -> runAnew(g, input));
    }

    private Run runAnew(int g, int input) {
        Run run = new Run();
        run.unroll = unroll;
        int[] in = split(input, sketch.ins);
        for (int k = 0; k < in.length; k++) run.env.put(sketch.ins.get(k).name, in[k]);
        int[] filled = split(g, sketch.holes);
        for (int k = 0; k < filled.length; k++) run.env.put(sketch.holes.get(k).name, filled[k]);
        for (String name : sketch.vars) run.env.put(name, 0);
        try {
            Reader.all(sketch.body, run);
            run.verdict = sketch.spec.of(run.env) == 0 ? 1 : 0;
        } catch (Refuted refuted) {
            run.verdict = refuted.verdict;
        }
        return run;
    }

    int verdict(int g, int i) { return noGuess(g) || noInput(i) ? -1 : run(g, i).verdict; }
    int steps(int g, int i) { return noGuess(g) || noInput(i) ? -1 : run(g, i).steps; }

    int ends(int g, int i, int k) {
        if (noGuess(g) || noInput(i) || k < 0 || k >= sketch.vars.size()) return -1;
        Run run = run(g, i);
        return run.verdict > 1 ? -2 : run.env.get(sketch.vars.get(k));
    }

    private List<Integer> verdicts(int g) {
        List<Integer> all = new ArrayList<>();
        for (int i = 0; i < inputs(); i++) all.add(run(g, i).verdict);
        return all;
    }

    private List<Integer> refuters(int g) {
        List<Integer> all = new ArrayList<>();
        List<Integer> verdicts = verdicts(g);
        for (int i = 0; i < inputs(); i++) if (verdicts.get(i) != 0) all.add(i);
        return all;
    }

    int refuter(int g) {
        if (noGuess(g)) return -2;
        List<Integer> all = refuters(g);
        return all.isEmpty() ? -1 : all.get(0);
    }

    private boolean out(int g) {
        for (int k = 0; k < pins.length; k++) if (pins[k] >= 0 && pins[k] != value(g, k)) return true;
        return false;
    }

    private List<Integer> left(List<Integer> keptOnes) {
        List<Integer> all = asTheyGo();
        all.removeIf(g -> out(g) || keptOnes.stream().anyMatch(i -> run(g, i).verdict != 0));
        return all;
    }

    int guess() {
        if (none() || state != 0 || current != -1) return -1;
        List<Integer> left = left(kept);
        if (left.isEmpty()) { state = 2; return -2; }
        return current = left.get(0);
    }

    int check() {
        if (none() || state != 0 || current == -1) return -1;
        List<Integer> all = refuters(current);
        if (all.isEmpty()) { state = 1; return -2; }
        if (kept.size() == 40) return -3;
        int chosen = all.get(0);
        if (order == 1) chosen = all.get(all.size() - 1);
        if (order == 2) for (int i : all) if (refutes(i) > refutes(chosen)) chosen = i;
        kept.add(chosen);
        current = -1;
        return chosen;
    }

    int go(int n) {
        if (none() || n < 1 || n > 100) return -1;
        int times = 0;
        while (times < n && state == 0) {
            if (current == -1) guess();
            else if (check() == -3) break;
            times++;
        }
        return times;
    }

    boolean pin(int k, int v) {
        if (noHole(k) || v < -1 || v >= 1 << sketch.holes.get(k).bits || pins[k] == v) return false;
        pins[k] = v;
        seek();
        return true;
    }

    int keep(int i) {
        if (noInput(i) || kept.contains(i) || kept.size() == 40) return -1;
        kept.add(i);
        seek();
        return kept.size();
    }

    int drop(int i) {
        if (none() || i < 0 || i >= kept.size()) return -1;
        seek();
        return kept.remove(i);
    }

    int set(int what, int v) {
        if (none() || v < 0) return -1;
        if (what == 0 && v <= 9) {
            int was = unroll;
            if (was != v) seek();
            unroll = v;
            return was;
        }
        if (what == 1 && v <= 2) {
            int was = order;
            order = v;
            return was;
        }
        return -1;
    }

    int state(int what) {
        if (what == 5) return tape.length();
        if (none()) return -1;
        if (what >= 10) return what - 10 < kept.size() ? kept.get(what - 10) : -1;
        switch (what) {
            case 0: return state;
            case 1: return current;
            case 2: return kept.size();
            case 3: return unroll;
            case 4: return order;
            default: return -1;
        }
    }

    int many(int what) {
        if (none() || what < 0 || what > 5) return -1;
        List<Integer> of = asTheyGo();
        if (what % 3 == 0) of = left(kept);
        if (what % 3 == 1) of.removeIf(g -> out(g) || !refuters(g).isEmpty());
        if (what % 3 == 2) of.removeIf(this::out);
        return what < 3 ? of.size() : of.isEmpty() ? -1 : of.get(0);
    }

    int by(int g, int v) {
        return noGuess(g) || v < 0 || v > 5 ? -1 : Collections.frequency(verdicts(g), v);
    }

    int refutes(int i) {
        if (noInput(i)) return -1;
        return (int) left(kept).stream().filter(g -> run(g, i).verdict != 0).count();
    }

    int sharpest(int what) {
        if (none() || what < 0 || what > 1) return -1;
        List<Integer> left = left(kept);
        int best = -1;
        int most = 0;
        for (int i = 0; i < inputs(); i++) {
            int input = i;
            int many = (int) left.stream().filter(g -> run(g, input).verdict != 0).count();
            if (many > most) { most = many; best = i; }
        }
        return what == 0 ? best : most;
    }

    int free(int g, int k) {
        if (noGuess(g) || noHole(k)) return -1;
        int many = 0;
        for (int other = 0; other < guesses(); other++) {
            int[] a = split(g, sketch.holes);
            int[] b = split(other, sketch.holes);
            a[k] = b[k];
            if (Arrays.equals(a, b) && refuters(other).isEmpty()) many++;
        }
        return many;
    }

    int needed(int i) {
        if (none() || i < 0 || i >= kept.size()) return -1;
        List<Integer> less = new ArrayList<>(kept);
        less.remove(i);
        return left(less).size() > left(kept).size() ? 1 : 0;
    }

    int core(int i) {
        if (none() || i < -1) return -1;
        List<Integer> whole = left(kept);
        List<Integer> stay = new ArrayList<>(kept);
        for (int j = kept.size() - 1; j >= 0; j--) {
            List<Integer> less = new ArrayList<>(stay);
            less.remove(kept.get(j));
            if (left(less).equals(whole)) stay = less;
        }
        return i == -1 ? stay.size() : i < stay.size() ? stay.get(i) : -1;
    }

    int kinds() {
        if (none()) return -1;
        Set<String> kinds = new TreeSet<>();
        for (int g : left(kept)) kinds.add(verdicts(g).toString());
        return kinds.size();
    }

    boolean alike(int g, int other) {
        return !noGuess(g) && !noGuess(other) && verdicts(g).equals(verdicts(other));
    }

    private String text(int g) {
        List<String> words = new ArrayList<>();
        int[] values = split(g, sketch.holes);
        for (Token t : sketch.shown) {
            String word = t.text.matches("[0-9]+") ? "" + Integer.parseInt(t.text) : t.text;
            for (int k = 0; k < values.length; k++)
                if (sketch.holes.get(k).name.equals(t.text)) word = "" + values[k];
            words.add(word);
        }
        return String.join(" ", words);
    }

    int shown(int g, int i) {
        if (noGuess(g) || i < -1) return -1;
        String text = text(g);
        return i == -1 ? text.length() : i < text.length() ? text.charAt(i) : -1;
    }
}
