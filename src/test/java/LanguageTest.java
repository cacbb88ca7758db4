import java.io.IOException;
import java.lang.reflect.Field;
import java.lang.reflect.Method;
import java.lang.reflect.Modifier;
import java.nio.file.Files;
import java.nio.file.Path;
import java.util.ArrayList;
import java.util.List;
import java.util.Map;
import java.util.Set;
import java.util.TreeMap;
import java.util.TreeSet;
import java.util.regex.Matcher;
import java.util.regex.Pattern;

/**
 * The rules of LANGUAGE.md that can be seen in the class's text or by reflection; FaceTest has the
 * face of rule 1 and the static fields of rule 5, LimitsTest the calls of rule 7.
 */
public final class LanguageTest {
    private static final Check CHECK = new Check();
    private static final Path SOURCE = Path.of("src/main/java/PathProfiler.java");
    private static final Pattern COMMENT = Pattern.compile("(?s)/\\*.*?\\*/|//[^\\n]*");
    private static final Pattern TOKEN = Pattern.compile("\\w+|->|::|<=|>=|==|!=|&&|\\|\\||\\+\\+|--|\\S");
    private static final Set<String> BEFORE_PARENTHESIS =
        Set.of("if", "for", "while", "switch", "return", "else", "case", "do");
    private static final Set<String> NUMBERS =
        Set.of("int", "long", "short", "byte", "char", "boolean");

    private final List<String> tokens = new ArrayList<>();
    private final List<Integer> lines = new ArrayList<>();
    private final Map<String, Set<String>> callsOf = new TreeMap<>();

    public static void main(String[] args) throws IOException {
        LanguageTest test = new LanguageTest(Files.readString(SOURCE));
        test.oneClass();
        test.typesAndNoLibrary();
        test.arraysMadeInFields();
        test.wordsLeftOut();
        test.loopsHaveABound();
        test.noCallInsideACall();
        test.methods();
        memberTypes();
        CHECK.end();
    }

    private LanguageTest(String text) {
        String code = withoutComments(text);
        int line = 1;
        int done = 0;
        Matcher token = TOKEN.matcher(code);
        while (token.find()) {
            line += (int) code.substring(done, token.start()).chars().filter(c -> c == '\n').count();
            done = token.start();
            tokens.add(token.group());
            lines.add(line);
        }
    }

    /** Comments become empty, but keep their lines. */
    private static String withoutComments(String text) {
        return COMMENT.matcher(text).replaceAll(found -> found.group().replaceAll("[^\\n]", " "));
    }

    private String at(int i) {
        return i >= 0 && i < tokens.size() ? tokens.get(i) : "";
    }

    private boolean isWord(int i) {
        return !at(i).isEmpty() && Character.isJavaIdentifierStart(at(i).charAt(0));
    }

    private boolean opensCall(int i) {
        return at(i).equals("(") && isWord(i - 1) && !BEFORE_PARENTHESIS.contains(at(i - 1));
    }

    private void without(String rule, String... words) {
        CHECK.sentence(rule);
        for (String word : words) {
            int i = tokens.indexOf(word);
            CHECK.holds("no " + word + (i < 0 ? "" : " (line " + lines.get(i) + ")"), i < 0);
        }
    }

    private void oneClass() {
        CHECK.sentence("rule 1: one class in one file, without a package line");
        String begin = String.join(" ", tokens.subList(0, 5));
        CHECK.holds("begins with the class: " + begin, begin.equals("public final class PathProfiler {"));
        CHECK.holds("no second class", tokens.indexOf("class") == tokens.lastIndexOf("class"));
        without("rule 1: no other kind of type", "interface", "enum", "record", "package", "protected");
    }

    private void typesAndNoLibrary() {
        without("rules 2 and 3: whole numbers alone, no library", "float", "double", "\"", "import",
            "super", "null", "hashCode", "equals", "toString", "getClass", "notify", "notifyAll",
            "wait", "clone", "finalize", "var");
        for (int i = 0; i < tokens.size(); i++) {
            boolean typeLike = isWord(i) && at(i).matches("[A-Z]\\w*[a-z]\\w*");
            CHECK.holds("no class " + at(i), !typeLike || at(i).equals("PathProfiler"));
            CHECK.holds("one dimension, line " + lines.get(i),
                !(at(i).equals("]") && at(i + 1).equals("[")));
            boolean qualified = opensCall(i) && at(i - 2).equals(".");
            CHECK.holds("no call of another's " + at(i - 1), !qualified || at(i - 3).equals("this"));
        }
    }

    private void arraysMadeInFields() {
        CHECK.sentence("rule 4: arrays are made in the fields, by a length that is a constant");
        int depth = 0;
        for (int i = 0; i < tokens.size(); i++) {
            depth += at(i).equals("{") ? 1 : at(i).equals("}") ? -1 : 0;
            if (at(i).equals("new")) {
                CHECK.due("depth of new in line " + lines.get(i), depth, 1);
                boolean fits = NUMBERS.contains(at(i + 1)) && at(i + 2).equals("[")
                    && at(i + 3).matches("[A-Z_]+|[1-9][0-9]*") && at(i + 4).equals("]");
                CHECK.holds("an array of numbers in line " + lines.get(i), fits);
            }
            boolean listed = at(i).equals("{") && (at(i - 1).equals("=") || at(i - 1).equals("]"));
            CHECK.holds("no list of values in line " + lines.get(i), !listed);
        }
    }

    private void wordsLeftOut() {
        without("rule 6: words left out", "throw", "throws", "try", "catch", "finally",
            "synchronized", "assert", "instanceof", "->", "::");
        CHECK.sentence("rule 5: no static initialiser");
        for (int i = 0; i < tokens.size(); i++) {
            CHECK.holds("line " + lines.get(i), !(at(i).equals("static") && at(i + 1).equals("{")));
        }
    }

    /** Narrower than the rule, which allows other loops too: this class does with counting ones. */
    private void loopsHaveABound() {
        without("rule 8: every loop counts against a bound", "while", "do");
        for (int i = 0; i < tokens.size(); i++) {
            if (at(i).equals("for")) {
                int first = tokens.subList(i, tokens.size()).indexOf(";") + i;
                boolean rises = at(first + 2).equals("<");
                boolean falls = at(first + 2).equals(">") && at(first + 3).equals("0");
                int second = tokens.subList(first + 1, tokens.size()).indexOf(";") + first + 1;
                boolean steps = at(second + 1).equals(at(first + 1))
                    && at(second + 2).equals(rises ? "++" : "--") && at(second + 3).equals(")");
                CHECK.holds("the loop in line " + lines.get(i), (rises || falls) && steps);
            }
        }
    }

    private void noCallInsideACall() {
        CHECK.sentence("rule 10: no call stands inside the arguments of another call");
        List<Boolean> open = new ArrayList<>();
        for (int i = 0; i < tokens.size(); i++) {
            if (at(i).equals("(")) {
                CHECK.holds("line " + lines.get(i), !opensCall(i) || !open.contains(true));
                open.add(opensCall(i));
            } else if (at(i).equals(")")) {
                open.remove(open.size() - 1);
            }
        }
    }

    private void methods() {
        CHECK.sentence("rule 10: methods stay short (some sixty lines)");
        int depth = 0;
        int begin = 0;
        for (int i = 0; i < tokens.size(); i++) {
            if (at(i).equals("{") && ++depth == 2) {
                begin = i;
            }
            if (at(i).equals("}") && --depth == 1) {
                String name = nameBefore(begin);
                CHECK.holds(name, lines.get(i) - lines.get(begin) < 60);
                callsOf.put(name, callsBetween(begin, i));
            }
        }
        int declared = PathProfiler.class.getDeclaredMethods().length + 1;
        CHECK.due("methods found, with the constructor", callsOf.size(), declared);
        CHECK.sentence("rules 8 and 10: no recursion, calls go at most six deep");
        for (String name : callsOf.keySet()) {
            int deep = deepest(name, 1);
            CHECK.holds(name + " goes " + deep + " deep", deep <= 6);
        }
    }

    private String nameBefore(int brace) {
        int i = brace;
        while (!at(i).equals("(")) {
            i--;
        }
        return at(i - 1);
    }

    private Set<String> callsBetween(int begin, int end) {
        Set<String> calls = new TreeSet<>();
        for (int i = begin; i < end; i++) {
            if (opensCall(i)) {
                calls.add(at(i - 1));
            }
        }
        return calls;
    }

    /** Stops at seven, which is too deep already, so that recursion ends here too. */
    private int deepest(String name, int depth) {
        int most = depth;
        for (String next : depth > 6 ? Set.<String>of() : callsOf.getOrDefault(name, Set.of())) {
            most = Math.max(most, deepest(next, depth + 1));
        }
        return most;
    }

    private static void memberTypes() {
        CHECK.sentence("rules 2, 4 and 10: the types of fields and methods, and how many");
        int fields = 0;
        for (Field field : PathProfiler.class.getDeclaredFields()) {
            Class<?> type = field.getType();
            boolean array = type.isArray() && type.getComponentType().isPrimitive();
            CHECK.holds(field.getName() + " is a number or an array of them", array || type.isPrimitive());
            CHECK.holds(field.getName() + " stays the same array",
                !array || Modifier.isFinal(field.getModifiers()));
            fields += Modifier.isStatic(field.getModifiers()) ? 0 : 1;
        }
        CHECK.holds(fields + " fields", fields <= 40);
        for (Method method : PathProfiler.class.getDeclaredMethods()) {
            CHECK.holds(method.getName() + " answers no array", method.getReturnType().isPrimitive());
            CHECK.holds(method.getName() + " has at most seven parameters", method.getParameterCount() <= 7);
        }
    }
}
