import java.io.IOException;
import java.lang.reflect.Constructor;
import java.lang.reflect.Field;
import java.lang.reflect.Method;
import java.lang.reflect.Modifier;
import java.nio.file.Files;
import java.nio.file.Path;
import java.util.ArrayList;
import java.util.Arrays;
import java.util.List;
import java.util.Set;
import java.util.TreeSet;
import java.util.regex.Matcher;
import java.util.regex.Pattern;

/** The face of the class, and the rules of ../shared/LANGUAGE.md that can be seen from outside or in the text. */
public final class LanguageTest {
    private static final Due due = new Due("LanguageTest");
    private static final String[] FACE = {
        "come(char,int)", "readRow()", "go(int)", "pay(int,int)", "trade(int)", "pass(int)", "wind(int,int)",
        "planTurn(int,int,int)", "dropTurn(int)", "crowd(boolean)", "setTangle(int)", "want()", "type(char)",
        "clearText()", "undo()", "keep()", "restore()", "flier(int,int)", "reads(int)", "ifTraded(int,int)",
        "nextTrade()", "spelledIn()", "turnOf(int,int)", "tangle(int,int)", "count(int)",
    };

    // "Ahead of the calls ... the interface says: ----": the groups of the face, each with its calls.
    private static final String[] GROUPS = {
        "fliers: come readRow go pay trade",
        "time, wind, settings: pass wind planTurn dropTurn crowd setTangle",
        "the word: want",
        "texts: type clearText",
        "history: undo keep restore",
        "what is told: flier reads ifTraded nextTrade spelledIn turnOf tangle count",
    };

    public static void main(String[] args) throws IOException, IllegalAccessException {
        constants();
        methods();
        classesInside();
        String source = Files.readString(Path.of("src/main/java/KiteWords.java"));
        groups(source);
        words(source);
        methodLengths(source);
        due.close();
    }

    private static void constants() throws IllegalAccessException {
        List<String> open = new ArrayList<>();
        for (Field field : KiteWords.class.getDeclaredFields()) {
            if (!Modifier.isPrivate(field.getModifiers())) {
                int all = Modifier.PUBLIC | Modifier.STATIC | Modifier.FINAL;
                due.is(field.getName() + " is a constant", field.getModifiers(), all);
                open.add(field.getName() + " " + field.getInt(null));
            }
        }
        String told = "[UNKNOWN -1000001, BAD_VALUE -1000002, FULL -1000003, NOT_POSSIBLE -1000004, NONE -1000005]";
        due.holds("the constants are " + open, open.toString().equals(told));
    }

    private static void methods() {
        due.holds("public and final", KiteWords.class.getModifiers() == (Modifier.PUBLIC | Modifier.FINAL));
        Constructor<?>[] constructors = KiteWords.class.getDeclaredConstructors();
        due.is("constructors", constructors.length, 1);
        due.is("without arguments", constructors[0].getParameterCount(), 0);
        due.holds("public", Modifier.isPublic(constructors[0].getModifiers()));
        Set<String> open = new TreeSet<>();
        for (Method method : KiteWords.class.getDeclaredMethods()) {
            if (!Modifier.isPrivate(method.getModifiers())) {
                due.is(method.getName() + " is public", method.getModifiers(), Modifier.PUBLIC);
                due.holds(method.getName() + " answers an int", method.getReturnType() == int.class);
                List<String> types = new ArrayList<>();
                for (Class<?> type : method.getParameterTypes()) {
                    types.add(type.getName());
                }
                open.add(method.getName() + "(" + String.join(",", types) + ")");
            }
        }
        due.holds("the face is " + open, open.equals(new TreeSet<>(Arrays.asList(FACE))));
    }

    private static void classesInside() {
        Class<?>[] inside = KiteWords.class.getDeclaredClasses();
        due.holds("classes", inside.length < 12);
        checkClass(KiteWords.class);
        for (Class<?> one : inside) {
            due.holds(one + " is static", Modifier.isStatic(one.getModifiers()));
            due.holds(one + " is not open", !Modifier.isPublic(one.getModifiers()) && !Modifier.isProtected(one.getModifiers()));
            checkClass(one);
        }
    }

    private static void checkClass(Class<?> one) {
        int fields = 0;
        for (Field field : one.getDeclaredFields()) {
            if (!Modifier.isStatic(field.getModifiers())) {
                fields++;
            }
            due.holds(field + " is no other static state",
                    !Modifier.isStatic(field.getModifiers()) || Modifier.isFinal(field.getModifiers()));
        }
        due.holds(one + " has few fields", fields <= 20);
        for (Method method : one.getDeclaredMethods()) {
            due.holds(method + " has few parameters", method.getParameterCount() <= 7);
            boolean isFace = one == KiteWords.class && Modifier.isPublic(method.getModifiers());
            due.holds(method + " bears a name of its own",
                    isFace || Arrays.stream(FACE).noneMatch(face -> face.startsWith(method.getName() + "(")));
        }
    }

    private static void groups(String source) {
        List<String> groups = new ArrayList<>();
        Matcher lines = Pattern.compile("(?m)^    // ---- (.*)$|^    public int (\\w+)\\(").matcher(source);
        while (lines.find()) {
            if (lines.group(1) != null) {
                groups.add(lines.group(1) + ":");
            } else if (!groups.isEmpty()) {
                groups.set(groups.size() - 1, groups.get(groups.size() - 1) + " " + lines.group(2));
            }
        }
        due.holds("the groups are " + groups, groups.equals(Arrays.asList(GROUPS)));
    }

    private static void words(String source) {
        String[] ruledOut = {"throw", "throws", "try", "catch", "finally", "synchronized", "assert", "import", "package",
            "protected", "volatile", "native", "Random", "Thread", "Object", "equals", "hashCode", "toString"};
        for (String word : ruledOut) {
            due.holds("no " + word, !Pattern.compile("\\b" + word + "\\b").matcher(source).find());
        }
        due.holds("no lambda", !source.contains("->"));
        due.holds("no method reference", !source.contains("::"));
        due.holds("no text", !source.contains("\""));
        due.holds("no static block", !Pattern.compile("static\\s*\\{").matcher(source).find());
        due.holds("plain signs", source.chars().allMatch(sign -> sign == '\n' || sign >= 32 && sign < 127));
        Matcher library = Pattern.compile("\\b[A-Z][a-zA-Z]*[a-z]\\.[a-zA-Z.]+").matcher(source);
        Set<String> used = new TreeSet<>();
        while (library.find()) {
            used.add(library.group());
        }
        used.remove("LANGUAGE.md");
        due.holds("the library is " + used, Set.of("Math.min", "System.arraycopy").containsAll(used));
    }

    private static void methodLengths(String source) {
        int length = 0;
        for (String line : source.split("\n")) {
            boolean opens = line.endsWith(") {") && (line.startsWith("    ") && line.charAt(4) != ' '
                    || line.startsWith("        ") && line.charAt(8) != ' ');
            length = opens ? 1 : length + 1;
            if (line.equals("    }") || line.equals("        }")) {
                due.holds("a method of " + length + " lines", length <= 60);
                length = 0;
            }
        }
    }
}
