import java.nio.charset.StandardCharsets;
import java.util.ArrayList;
import java.util.List;
import java.util.NoSuchElementException;
import java.util.Random;
import java.util.TreeMap;

/** Random runs of calls, each answer compared with the Oracle's. The seeds are fixed. */
public final class RandomRunsTest {
    private static int wrong = 0;
    private static final TreeMap<String, Integer> seen = new TreeMap<>();

    public static void main(String[] args) {
        int runs = args.length > 0 ? Integer.parseInt(args[0]) : 1500;
        int texts = args.length > 1 ? Integer.parseInt(args[1]) : 60000;
        int seed = args.length > 2 ? Integer.parseInt(args[2]) : 1;
        for (int i = 0; i < texts && wrong < 20; i++) oneText(new Random(seed * 1000003L + i));
        for (int i = 0; i < runs && wrong < 20; i++) oneRun(new Random(seed * 7000003L + i));
        if (args.length > 0) System.out.println(seen);
        System.out.println(wrong == 0 ? "all answers are as due" : wrong + " answers are not as due");
        if (wrong != 0) System.exit(1);
    }

    private static void due(List<String> log, String call, long got, long want) {
        log.add(call + " -> " + want);
        String name = call.substring(0, call.indexOf('('));
        if (!name.equals("feed")) {
            String kind = name.equals("sketch") && want < -1 ? "fault " + (-2 - want) % 8
                    : want < 0 ? "" + want : name.equals("verdict") ? "" + want : want == 0 ? "0" : "+";
            seen.merge(name + " " + kind, 1, Integer::sum);
        }
        if (got == want) return;
        wrong++;
        System.out.println(call + " answered " + got + ", due is " + want + " behind:");
        for (String row : log) System.out.println("    " + row);
    }

    /** One text, for its fault alone. */
    private static void oneText(Random random) {
        SketchFiller x = new SketchFiller();
        Oracle o = new Oracle();
        tell(x, o, random, new ArrayList<>(), text(random, 3));
    }

    private static void tell(SketchFiller x, Oracle o, Random random, List<String> log, String text) {
        feedAll(x, o, random, log, text);
        due(log, "state(5)", x.state(5), o.state(5));
        int n = random.nextInt(60) == 0 ? random.nextInt(900) - 20 : text.length();
        due(log, "sketch(" + n + ")", x.sketch(n), o.sketch(n));
        due(log, "state(5)", x.state(5), o.state(5));
    }

    private static void feedAll(SketchFiller x, Oracle o, Random random, List<String> log, String text) {
        byte[] bytes = text.getBytes(StandardCharsets.ISO_8859_1);
        log.add("text: " + text);
        for (int from = 0; from < bytes.length; from += 20) {
            int[] n = new int[5];
            for (int j = 0; j < 20; j++) {
                int b = from + j < bytes.length ? bytes[from + j] & 255 : random.nextInt(256);
                n[j / 4] = n[j / 4] << 8 | b;
            }
            int want = o.feed(n);
            if (x != null) due(log, "feed(..)", x.feed(n[0], n[1], n[2], n[3], n[4]), want);
        }
    }

    private static void oneRun(Random random) {
        SketchFiller x = new SketchFiller();
        Oracle o = new Oracle();
        List<String> log = new ArrayList<>();
        int calls = 40 + random.nextInt(160);
        if (random.nextInt(12) != 0) tell(x, o, random, log, worthwhile(random));
        for (int i = 0; i < calls && wrong < 20; i++) {
            if (random.nextInt(80) == 0) {
                tell(x, o, random, log, random.nextBoolean() ? worthwhile(random) : text(random, 2));
            }
            oneCall(x, o, random, log);
        }
    }

    /** A text without faults, of which, if one is soon found, some guesses are true and some are not. */
    private static String worthwhile(Random random) {
        String best = "sketch 1; spec 1;";
        for (int i = 0; i < 60; i++) {
            String text = text(random, 0);
            Oracle o = new Oracle();
            List<String> log = new ArrayList<>();
            feedAll(null, o, random, log, text);
            if (o.sketch(text.length()) < 0) continue;
            best = text;
            int all = 1 << o.has(6);
            int one = 1 << o.has(5) + o.has(6);
            if (one > 1024 && random.nextInt(3) != 0) continue;
            int some = o.many(1);
            if (some > 0 && some < all || random.nextInt(12) == 0) return text;
        }
        return best;
    }

    private static int pick(Random random, int count) {
        switch (random.nextInt(30)) {
            case 0: return -1;
            case 1: return count;
            case 2: return new int[] {Integer.MIN_VALUE, Integer.MAX_VALUE, -2, count + 1, 1 << 30, -10}[random.nextInt(6)];
            default: return count <= 0 ? 0 : random.nextInt(count);
        }
    }

    private static void oneCall(SketchFiller x, Oracle o, Random random, List<String> log) {
        int guesses = 1 << Math.max(0, o.has(6));
        int inputs = 1 << Math.max(0, o.has(5));
        int g = pick(random, guesses);
        int h = pick(random, guesses);
        int in = pick(random, inputs);
        int k = pick(random, o.has(2));
        int kept = pick(random, o.state(2));
        int a;
        switch (random.nextInt(34)) {
            case 0: a = pick(random, 7); due(log, "has(" + a + ")", x.has(a), o.has(a)); break;
            case 1: a = pick(random, 3); due(log, "hole(" + k + ", " + a + ")", x.hole(k, a), o.hole(k, a)); break;
            case 2: due(log, "value(" + g + ", " + k + ")", x.value(g, k), o.value(g, k)); break;
            case 3: due(log, "cost(" + g + ")", x.cost(g), o.cost(g)); break;
            case 4: {
                Integer want = o.ranked(g);
                long got = Long.MIN_VALUE;
                try { got = x.ranked(g); } catch (NoSuchElementException e) { got = -99; }
                due(log, "ranked(" + g + ")", got, want == null ? -99 : want);
                break;
            }
            case 5: due(log, "verdict(" + g + ", " + in + ")", x.verdict(g, in), o.verdict(g, in)); break;
            case 6: due(log, "steps(" + g + ", " + in + ")", x.steps(g, in), o.steps(g, in)); break;
            case 7: a = pick(random, o.has(3)); due(log, "ends(" + g + ", " + in + ", " + a + ")", x.ends(g, in, a), o.ends(g, in, a)); break;
            case 8: due(log, "refuter(" + g + ")", x.refuter(g), o.refuter(g)); break;
            case 9: case 10: due(log, "guess()", x.guess(), o.guess()); break;
            case 11: case 12: due(log, "check()", x.check(), o.check()); break;
            case 13: a = random.nextInt(4) == 0 ? pick(random, 101) : pick(random, 5); due(log, "go(" + a + ")", x.go(a), o.go(a)); break;
            case 14: a = random.nextInt(2) == 0 ? -1 : pick(random, 1 << Math.max(0, o.hole(k, 0))); due(log, "pin(" + k + ", " + a + ")", x.pin(k, a) ? 1 : 0, o.pin(k, a) ? 1 : 0); break;
            case 15: due(log, "keep(" + in + ")", x.keep(in), o.keep(in)); break;
            case 16: due(log, "drop(" + kept + ")", x.drop(kept), o.drop(kept)); break;
            case 17: case 18: a = pick(random, 10); due(log, "set(0, " + a + ")", x.set(0, a), o.set(0, a)); break;
            case 19: a = pick(random, 3); due(log, "set(1, " + a + ")", x.set(1, a), o.set(1, a)); break;
            case 20: a = pick(random, 20); due(log, "state(" + a + ")", x.state(a), o.state(a)); break;
            case 21: case 22: a = pick(random, 6); due(log, "many(" + a + ")", x.many(a), o.many(a)); break;
            case 23: a = pick(random, 6); due(log, "by(" + g + ", " + a + ")", x.by(g, a), o.by(g, a)); break;
            case 24: due(log, "refutes(" + in + ")", x.refutes(in), o.refutes(in)); break;
            case 25: a = pick(random, 2); due(log, "sharpest(" + a + ")", x.sharpest(a), o.sharpest(a)); break;
            case 26: due(log, "free(" + g + ", " + k + ")", x.free(g, k), o.free(g, k)); break;
            case 27: due(log, "needed(" + kept + ")", x.needed(kept), o.needed(kept)); break;
            case 28: a = random.nextInt(2) == 0 ? -1 : kept; due(log, "core(" + a + ")", x.core(a), o.core(a)); break;
            case 29: due(log, "kinds()", x.kinds(), o.kinds()); break;
            case 30: due(log, "alike(" + g + ", " + h + ")", x.alike(g, h) ? 1 : 0, o.alike(g, h) ? 1 : 0); break;
            case 31: a = pick(random, Math.max(0, o.shown(g, -1))); due(log, "shown(" + g + ", " + a + ")", x.shown(g, a), o.shown(g, a)); break;
            case 32: a = random.nextInt(5) - 2; due(log, "set(" + a + ", 1)", x.set(a, 1), o.set(a, 1)); break;
            default: a = random.nextInt(3) * 5; due(log, "state(" + a + ")", x.state(a), o.state(a)); break;
        }
    }

    // ---- texts

    /** A random sketch's text, with so many random changes at most. */
    private static String text(Random random, int changes) {
        Maker maker = new Maker(random, changes > 0);
        List<String> tokens = maker.whole();
        for (int i = random.nextInt(changes + 1); i > 0; i--) change(tokens, random);
        StringBuilder text = new StringBuilder();
        for (String token : tokens) {
            if (text.length() > 0 && clash(text.charAt(text.length() - 1), token) || random.nextInt(6) == 0)
                text.append(random.nextInt(4) == 0 ? "\n" : " ");
            text.append(token);
        }
        for (int i = random.nextInt(3); i > 0; i--) text.append(' ');
        if (changes > 0 && random.nextInt(10) == 0 && text.length() > 0) {
            int at = random.nextInt(text.length());
            text.setCharAt(at, "aZ9 \t\r#>!;(\u0000\u00e4~".charAt(random.nextInt(14)));
        }
        return text.length() > 800 ? text.substring(0, 800) : text.toString();
    }

    private static boolean clash(char before, String token) {
        if (token.isEmpty()) return false;
        char first = token.charAt(0);
        return Character.isLetter(before) && Character.isLetter(first)
                || Character.isDigit(before) && Character.isDigit(first);
    }

    private static void change(List<String> tokens, Random random) {
        int at = random.nextInt(tokens.size());
        String other = random.nextInt(2) == 0 ? tokens.get(random.nextInt(tokens.size()))
                : "sketch in hole rank var must if else loop while most let spec ; = & | ^ < + - * / % ~ ( ) { } 0 1 7 10 17 99999 000001 a b x zzzzzz zzzzzzz ? A"
                        .split(" ")[random.nextInt(42)];
        switch (random.nextInt(5)) {
            case 0: if (tokens.size() > 1) tokens.remove(at); break;
            case 1: tokens.add(at, other); break;
            case 2: tokens.set(at, other); break;
            case 3: if (random.nextInt(4) == 0) tokens.subList(at, tokens.size()).clear(); if (tokens.isEmpty()) tokens.add("sketch"); break;
            default: {
                String moved = tokens.remove(at);
                tokens.add(random.nextInt(tokens.size() + 1), moved);
                break;
            }
        }
    }

    /** Makes the tokens of a sketch; a loose one now and then goes beyond a limit. */
    private static final class Maker {
        private final Random random;
        private final boolean loose;
        private final List<String> out = new ArrayList<>();
        private final List<String> readable = new ArrayList<>();
        private final List<String> settable = new ArrayList<>();
        private int statements;
        private int names = 0;
        private int width;

        Maker(Random random, boolean loose) {
            this.random = random;
            this.loose = loose;
            this.statements = random.nextInt(3) == 0 ? 26 : 1 + random.nextInt(12);
        }

        private boolean rare() { return loose && random.nextInt(25) == 0; }

        private void put(String words) {
            for (String word : words.split(" ")) out.add(word);
        }

        private String name() {
            String[] all = {"a", "b", "c", "d", "e", "f", "g", "h", "i", "j", "k", "l", "m", "n", "o", "p", "abc", "abcdef", "ab"};
            if (rare()) return all[random.nextInt(all.length)];
            return names < all.length ? all[names++] : "q" + (char) ('a' + names++ % 26);
        }

        List<String> whole() {
            width = rare() ? new int[] {0, 17, 18, 1}[random.nextInt(4)]
                    : random.nextInt(3) == 0 ? 1 + random.nextInt(16) : 2 + random.nextInt(4);
            put("sketch " + width + " ;");
            int bitsMost = Math.min(6, Math.max(1, width));
            boolean large = random.nextInt(6) == 0;
            int ins = random.nextInt(4) + (rare() ? 1 : 0);
            int holes = random.nextInt(large ? 6 : 4) + (rare() ? 1 : 0);
            int vars = random.nextInt(5) + (rare() ? 1 : 0);
            int inBits = large ? 7 : 4;
            int holeBits = large ? 7 : 4;
            while (ins + holes + vars > 0) {
                int which = random.nextInt(3);
                if (which == 0 && ins > 0) {
                    ins--;
                    int bits = 1 + random.nextInt(bitsMost);
                    if (!rare()) bits = Math.min(bits, inBits - ins);
                    if (bits < 1) continue;
                    inBits -= bits;
                    String name = name();
                    put("in " + name + " " + (rare() ? random.nextInt(9) : bits) + " ;");
                    readable.add(name);
                } else if (which == 1 && holes > 0) {
                    holes--;
                    int bits = 1 + random.nextInt(bitsMost);
                    if (!rare()) bits = Math.min(bits, holeBits - holes);
                    if (bits < 1) continue;
                    holeBits -= bits;
                    String name = name();
                    put("hole " + name + " " + (rare() ? random.nextInt(9) : bits));
                    if (random.nextInt(2) == 0) put("rank " + (rare() ? 10 + random.nextInt(3) : random.nextInt(10)));
                    put(";");
                    readable.add(name);
                } else if (which == 2 && vars > 0) {
                    vars--;
                    String name = name();
                    put("var " + name + " ;");
                    readable.add(name);
                    settable.add(name);
                }
            }
            block(0, 0, true);
            put("spec");
            if (random.nextInt(3) == 0) {
                expression(2);
                put(random.nextBoolean() ? "=" : "<");
                expression(1);
            } else {
                expression(3);
            }
            put(";");
            return out;
        }

        private void block(int braces, int lets, boolean outer) {
            int many = outer ? statements : random.nextInt(4);
            for (int i = 0; i < many && statements > 0 && out.size() < 260; i++) statement(braces, lets);
        }

        private void braced(int braces, int lets) {
            put("{");
            block(braces + 1, lets, false);
            put("}");
        }

        private void statement(int braces, int lets) {
            statements--;
            int which = random.nextInt(9);
            boolean deep = braces < 4 || rare();
            if (which < 3 || !deep) {
                if (settable.isEmpty() && !rare() || which == 0 && random.nextInt(2) == 0) {
                    put("must");
                    if (random.nextInt(2) == 0) put("1 |");
                    expression(1 + random.nextInt(3));
                } else {
                    String name = rare() || settable.isEmpty() ? "zz" : settable.get(random.nextInt(settable.size()));
                    if (rare() && !readable.isEmpty()) name = readable.get(random.nextInt(readable.size()));
                    put(name + " =");
                    expression(random.nextInt(4));
                }
                put(";");
            } else if (which == 3 || which == 4) {
                put("if");
                expression(2);
                braced(braces, lets);
                if (random.nextInt(2) == 0) {
                    put("else");
                    braced(braces, lets);
                }
            } else if (which == 5) {
                put("loop " + (rare() ? random.nextInt(12) : 1 + random.nextInt(9)));
                braced(braces, lets);
            } else if (which == 6 || which == 7) {
                put("while");
                expression(2);
                put("most " + (rare() ? random.nextInt(12) : 1 + random.nextInt(9)));
                braced(braces, lets);
            } else if (lets < 3 || rare()) {
                int before = names;
                String name = name();
                put("let " + name + " =");
                expression(2);
                readable.add(name);
                settable.add(name);
                braced(braces, lets + 1);
                if (!rare()) {
                    readable.remove(readable.lastIndexOf(name));
                    settable.remove(settable.lastIndexOf(name));
                }
                if (random.nextInt(2) == 0) names = before;
            }
        }

        /** Tokens at random: parts with operators between, signs ahead, some in brackets. */
        private void expression(int size) {
            part(size, rare() ? 8 : 5);
            boolean tested = false;
            for (int i = random.nextInt(size + 1); i > 0; i--) {
                String op = "| ^ & + - * / % + - = <".split(" ")[random.nextInt(12)];
                boolean test = op.equals("=") || op.equals("<");
                if (test && tested && !rare()) op = "&";
                tested = test || tested && !op.matches("[|^&]");
                put(op);
                part(size, rare() ? 8 : 5);
            }
        }

        private void part(int size, int open) {
            int which = random.nextInt(10);
            if (which == 0 && open > 0) {
                put(random.nextBoolean() ? "~" : "-");
                part(size, open - 1);
            } else if (which == 1 && size > 0 && open > 3) {
                put("(");
                expression(size - 1);
                put(")");
            } else if (which < 5 || readable.isEmpty()) {
                put(random.nextInt(8) == 0 ? "00" + random.nextInt(1000) : random.nextInt(8) == 0 ? "" + random.nextInt(100000)
                        : "" + random.nextInt(4));
            } else {
                put(rare() ? "zz" : readable.get(random.nextInt(readable.size())));
            }
        }
    }
}
