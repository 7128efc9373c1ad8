import java.io.IOException;
import java.lang.reflect.Constructor;
import java.lang.reflect.Field;
import java.lang.reflect.Method;
import java.lang.reflect.Modifier;
import java.nio.charset.StandardCharsets;
import java.nio.file.Files;
import java.nio.file.Path;
import java.util.Arrays;
import java.util.List;
import java.util.Set;
import java.util.TreeMap;
import java.util.TreeSet;
import java.util.regex.Matcher;
import java.util.regex.Pattern;
import java.util.stream.Collectors;

/**
 * What can be told of ../shared/LANGUAGE.md by the source's text and by reflection, and the public
 * face of the document, to the letter. Runs from the project's root, as .ci/run does.
 */
public final class LanguageTest {
    private static final List<String> FACE = List.of(
        "int town(int)", "int street(int,int,int,int)", "int event(int,int,int,int,int,int)", "int back(int)",
        "int law(int)", "int undo()", "int rent(int,int)", "int type(int)", "int clear()", "int read()",
        "int of(int,int)", "int name(int,int)", "int changes(int)", "int which(int,int,int)",
        "int letter(int,int,int)", "int cab(int,int,int)", "int find(int,int)", "int stage(int,int,int,int)",
        "int forbid(int)", "int rents(int)", "int landlords(int,int,int,int)", "int round(int,int)",
        "int reading(int,int,int)", "int burn()", "int truly(int)", "int drawn(int,int,int)", "int image(int)",
        "int from(int)", "int status(int)", "int count(int)", "long digest()");

    private LanguageTest() {
    }

    private static void holds(String rule, boolean isSo) {
        Calls.due(rule, isSo ? 1 : 0, 1);
    }

    private static void face() throws ReflectiveOperationException {
        Set<String> open = new TreeSet<>();
        Set<String> closed = new TreeSet<>();
        for (Method m : LastHappened.class.getDeclaredMethods()) {
            String takes = Arrays.stream(m.getParameterTypes()).map(Class::getName).collect(Collectors.joining(","));
            if (!Modifier.isPrivate(m.getModifiers())) {
                holds("public: " + m, m.getModifiers() == Modifier.PUBLIC);
                open.add(m.getReturnType().getName() + " " + m.getName() + "(" + takes + ")");
            } else {
                closed.add(m.getName());
            }
            holds("seven parameters at most: " + m, m.getParameterCount() <= 7);
        }
        holds("the methods of the face: " + open, open.equals(new TreeSet<>(FACE)));
        for (String name : Calls.NAMES) {
            holds("no private method called " + name, !closed.contains(name));
        }
        Constructor<?>[] made = LastHappened.class.getDeclaredConstructors();
        holds("one public constructor", made.length == 1 && made[0].getParameterCount() == 0
            && made[0].getModifiers() == Modifier.PUBLIC);
        holds("public and final", LastHappened.class.getModifiers() == (Modifier.PUBLIC | Modifier.FINAL));
        constants();
    }

    private static void constants() throws ReflectiveOperationException {
        TreeMap<String, Integer> open = new TreeMap<>();
        for (Field f : LastHappened.class.getDeclaredFields()) {
            if (!Modifier.isPrivate(f.getModifiers())) {
                holds("a constant: " + f, f.getModifiers() == (Modifier.PUBLIC | Modifier.STATIC | Modifier.FINAL));
                open.put(f.getName(), f.getInt(null));
            }
        }
        holds("the constants", open.toString().equals("{BAD=-2, FULL=-4, NO=-3, NONE=-1}"));
    }

    private static void classesInside() {
        int classes = 1;
        for (Class<?> inside : LastHappened.class.getDeclaredClasses()) {
            classes++;
            holds("static: " + inside, Modifier.isStatic(inside.getModifiers()));
            holds("not public or protected: " + inside, (inside.getModifiers() & (Modifier.PUBLIC | Modifier.PROTECTED)) == 0);
            holds("no class in a class inside: " + inside, inside.getDeclaredClasses().length == 0);
            fields(inside);
        }
        fields(LastHappened.class);
        holds("some twelve classes", classes <= 12);
    }

    private static void fields(Class<?> owner) {
        int fields = 0;
        for (Field f : owner.getDeclaredFields()) {
            if (Modifier.isStatic(f.getModifiers())) {
                holds("static fields are final: " + f, Modifier.isFinal(f.getModifiers()));
            } else {
                fields++;
            }
        }
        holds("some twenty fields: " + owner, fields <= 20);
    }

    /** The source without its comments and without what stands in quotes. */
    private static String bare(String source) {
        return source.replaceAll("(?s)/\\*.*?\\*/", "").replaceAll("//[^\n]*", "")
            .replaceAll("\"[^\"\n]*\"", "\"\"").replaceAll("'[^'\n]+'", "' '");
    }

    private static void source(String source) {
        String bare = bare(source);
        holds("signs 10 and 32 to 126 alone", source.chars().allMatch(c -> c == '\n' || c >= 32 && c < 127));
        for (String word : List.of("throw", "throws", "try", "catch", "finally", "synchronized", "assert", "volatile",
                "transient", "native", "import", "package", "protected", "var", "yield", "record", "null", "float",
                "double", "Object", "Random", "Thread", "Runtime", "equals", "hashCode", "toString", "nanoTime",
                "currentTimeMillis", "identityHashCode", "StringBuilder", "Integer.valueOf")) {
            Matcher m = Pattern.compile("\\b" + word + "\\b").matcher(bare);
            holds("without " + word, !m.find());
        }
        holds("no lambda, no arrow, no method reference", !bare.contains("->") && !bare.contains("::"));
        holds("no texts joined by +", !bare.contains("\"\" +") && !bare.contains("+ \"\""));
        holds("only these of the library", library(bare).equals(Set.of("Math.max", "Math.min", "System.arraycopy",
            "Integer.bitCount")));
        objectsMade(bare);
        lengths(source);
    }

    private static Set<String> library(String bare) {
        Set<String> used = new TreeSet<>();
        Matcher m = Pattern.compile("\\b(Math|System|Integer|Long|Arrays|List|Character|String)\\.\\w+").matcher(bare);
        while (m.find()) {
            used.add(m.group());
        }
        return used;
    }

    /** Objects and arrays are made with their owner alone: no method makes one. */
    private static void objectsMade(String bare) {
        for (String line : bare.split("\n")) {
            if (line.contains("new ")) {
                boolean ofField = line.matches(" +private final .*= new .*;") || line.matches(" +this\\.\\w+ = new .*;");
                holds("made with its owner:" + line, ofField);
            }
        }
    }

    private static void lengths(String source) {
        int since = -1;
        int at = 0;
        for (String line : source.split("\n")) {
            at++;
            holds("line " + at + " has 120 signs at most", line.length() <= 120);
            if (line.matches(" {4}( {4})?[\\w\\[\\]]+.*\\) \\{") && !line.contains(" class ") && !line.contains("else")) {
                since = at;
            }
            if (line.matches(" {4}( {4})?\\}") && since >= 0) {
                holds("a method of some sixty lines ends in line " + at, at - since < 60);
                since = -1;
            }
        }
    }

    public static void main(String[] args) throws IOException, ReflectiveOperationException {
        face();
        classesInside();
        source(Files.readString(Path.of("src/main/java/LastHappened.java"), StandardCharsets.ISO_8859_1));
        Calls.finish("the face, and the rules of LANGUAGE.md");
    }
}
