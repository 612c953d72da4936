import java.lang.reflect.Constructor;
import java.lang.reflect.Field;
import java.lang.reflect.Method;
import java.lang.reflect.Modifier;
import java.nio.file.Files;
import java.nio.file.Path;
import java.util.Arrays;
import java.util.List;
import java.util.Set;
import java.util.TreeSet;
import java.util.regex.Matcher;
import java.util.regex.Pattern;

/** The face of the document, and those rules of LANGUAGE.md that a text search can hold to. */
public final class LanguageTest {
    private static int wrong = 0;

    private static final List<String> FACE = List.of("int feed 5", "int sketch 1", "int has 1", "int hole 2",
            "int value 2", "int cost 1", "int ranked 1", "int verdict 2", "int steps 2", "int ends 3", "int refuter 1",
            "int guess 0", "int check 0", "int go 1", "boolean pin 2", "int keep 1", "int drop 1", "int set 2",
            "int state 1", "int many 1", "int by 2", "int refutes 1", "int sharpest 1", "int free 2", "int needed 1",
            "int core 1", "int kinds 0", "boolean alike 2", "int shown 2");

    private static final List<String> FORBIDDEN = List.of("->", "::", "\\bfinally\\b", "\\bsynchronized\\b",
            "\\bassert\\b", "\\bcatch\\b", "\\btry\\b", "Exact\\b", "\\bSystem\\.(?!arraycopy)", "\\bRandom\\b",
            "\\bThread\\b", "\\bdouble\\b", "\\bfloat\\b", "\\bstatic\\s*\\{", "^package\\b", "\\bObject\\b",
            "\\.hashCode\\b", "\\.toString\\b", "import java\\.util\\.(?!Arrays;|NoSuchElementException;)");

    public static void main(String[] args) throws Exception {
        face();
        String source = Files.readString(Path.of("src/main/java/SketchFiller.java"));
        words(source);
        methods(source);
        System.out.println(wrong == 0 ? "the face and the rules are kept" : wrong + " are not kept");
        if (wrong != 0) System.exit(1);
    }

    private static void hold(String what, boolean well) {
        if (well) return;
        wrong++;
        System.out.println("not kept: " + what);
    }

    private static void face() {
        Class<?> c = SketchFiller.class;
        hold("public final", Modifier.isPublic(c.getModifiers()) && Modifier.isFinal(c.getModifiers()));
        Set<String> found = new TreeSet<>();
        for (Method m : c.getDeclaredMethods()) {
            if (Modifier.isPrivate(m.getModifiers())) {
                hold("a private method's name: " + m.getName(), FACE.stream().noneMatch(f -> f.split(" ")[1].equals(m.getName())));
                continue;
            }
            found.add(m.getReturnType() + " " + m.getName() + " " + m.getParameterCount());
            hold("public: " + m.getName(), Modifier.isPublic(m.getModifiers()) && !Modifier.isStatic(m.getModifiers()));
            hold("ints alone: " + m.getName(), Arrays.stream(m.getParameterTypes()).allMatch(t -> t == int.class));
        }
        hold("methods of the face: " + found, found.equals(new TreeSet<>(FACE)));
        for (Field f : c.getDeclaredFields()) {
            hold("field " + f.getName(), Modifier.isPrivate(f.getModifiers()) || f.getName().equals("NONE"));
            finalIfStatic(f);
        }
        Constructor<?>[] made = c.getDeclaredConstructors();
        hold("one constructor", made.length == 1 && made[0].getParameterCount() == 0 && Modifier.isPublic(made[0].getModifiers()));
        hold("at most twelve classes", c.getDeclaredClasses().length < 12);
        for (Class<?> inner : c.getDeclaredClasses()) {
            hold("static: " + inner, Modifier.isStatic(inner.getModifiers()) && !Modifier.isPublic(inner.getModifiers()));
            long fields = Arrays.stream(inner.getDeclaredFields()).filter(f -> !Modifier.isStatic(f.getModifiers())).count();
            hold("some twenty fields: " + inner, fields <= 20);
            for (Method m : inner.getDeclaredMethods())
                hold("a name of the face within " + inner + ": " + m.getName(), FACE.stream().noneMatch(f -> f.split(" ")[1].equals(m.getName())));
            for (Field f : inner.getDeclaredFields()) finalIfStatic(f);
        }
    }

    private static void finalIfStatic(Field f) {
        hold("static, not final: " + f, !Modifier.isStatic(f.getModifiers()) || Modifier.isFinal(f.getModifiers()));
    }

    private static void words(String source) {
        String code = source.replaceAll("(?s)/\\*.*?\\*/", "").replaceAll("//[^\n]*", "");
        for (String word : FORBIDDEN) {
            Matcher m = Pattern.compile(word, Pattern.MULTILINE).matcher(code);
            hold("none of " + word, !m.find());
        }
        hold("plain signs alone", source.chars().allMatch(ch -> ch == 10 || ch >= 32 && ch < 127));
    }

    /** A method begins at a line that ends in ") {" four or eight blanks in, and ends at its "}". */
    private static void methods(String source) {
        String[] rows = source.split("\n");
        for (int i = 0; i < rows.length; i++) {
            Matcher m = Pattern.compile("^( {4}| {8})(?! |if|for|while|switch|\\}).*\\((.*)\\).* \\{$").matcher(rows[i]);
            if (!m.matches()) continue;
            int end = i;
            while (end < rows.length && !rows[end].equals(m.group(1) + "}")) end++;
            hold("some sixty lines: " + rows[i], end - i < 62);
            hold("seven parameters: " + rows[i], m.group(2).split(",").length <= 7);
        }
    }
}
