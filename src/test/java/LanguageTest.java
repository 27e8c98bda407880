import java.io.IOException;
import java.lang.reflect.Constructor;
import java.lang.reflect.Field;
import java.lang.reflect.Method;
import java.lang.reflect.Modifier;
import java.nio.file.Files;
import java.nio.file.Path;
import java.util.Arrays;
import java.util.List;
import java.util.TreeSet;
import java.util.regex.Matcher;
import java.util.regex.Pattern;

/** The rules of LANGUAGE.md that can be looked at from outside: the face, the words, the room. */
public final class LanguageTest {
    private static final Path SOURCE = Path.of("src/main/java/SometimesSums.java");
    private static final List<String> FACE = List.of(
        "take(int,int)", "addThing()", "removeThing(int)", "setSum(int,int,int)", "clearSum(int,int)", "readSums()",
        "glue(int)", "twice()", "swap(int,int)", "type(char)", "clearText()", "undo()", "keep()", "restore()",
        "sum(int,int)", "difference(int,int)", "broken(int)", "thing(int,int)", "sumOf(int)", "block(int,int)",
        "weighings(int)", "weight(int,int)", "range(int,int,boolean)", "count(int)");
    private static final List<String> CONSTANTS = List.of("UNKNOWN", "BAD_VALUE", "FULL", "NOT_POSSIBLE", "NONE");
    private static final int MOST_CLASSES = 12;
    private static final int MOST_FIELDS = 20;
    private static final int MOST_PARAMETERS = 7;
    private static final int MOST_LINES = 60;
    private static final int CALLS = 512;
    // Far below the room's 7.3 million elements, and far above what the test itself makes.
    private static final long MOST_BYTES = 200_000;

    private LanguageTest() {
    }

    public static void main(String[] args) throws IOException {
        face();
        classes();
        String code = withoutComments(Files.readString(SOURCE));
        words(code);
        methodLengths(code);
        room();
        Due.end();
    }

    private static void face() {
        int modifiers = SometimesSums.class.getModifiers();
        Due.is("public and final", Modifier.isPublic(modifiers) && Modifier.isFinal(modifiers) ? 1 : 0, 1);
        TreeSet<String> found = new TreeSet<>();
        TreeSet<String> hidden = new TreeSet<>();
        for (Method method : SometimesSums.class.getDeclaredMethods()) {
            if (Modifier.isPrivate(method.getModifiers())) {
                hidden.add(method.getName());
            } else {
                Due.is(method + " is public, answers an int and is not static", isFaceMethod(method) ? 1 : 0, 1);
                found.add(signature(method));
            }
        }
        Due.is("methods of the face " + found, found.equals(new TreeSet<>(FACE)) ? 1 : 0, 1);
        for (String method : FACE) {
            String name = method.substring(0, method.indexOf('('));
            Due.is("a private method is named " + name, hidden.contains(name) ? 1 : 0, 0);
        }
        TreeSet<String> constants = new TreeSet<>();
        for (Field field : SometimesSums.class.getDeclaredFields()) {
            if (!Modifier.isPrivate(field.getModifiers())) {
                constants.add(field.getName());
                Due.is(field + " is a constant", isConstant(field) ? 1 : 0, 1);
            }
        }
        Due.is("constants " + constants, constants.equals(new TreeSet<>(CONSTANTS)) ? 1 : 0, 1);
        Constructor<?>[] constructors = SometimesSums.class.getDeclaredConstructors();
        Due.is("constructors", constructors.length, 1);
        Due.is("its parameters", constructors[0].getParameterCount(), 0);
        Due.is("it is public", Modifier.isPublic(constructors[0].getModifiers()) ? 1 : 0, 1);
    }

    private static boolean isFaceMethod(Method method) {
        int modifiers = method.getModifiers();
        return Modifier.isPublic(modifiers) && !Modifier.isStatic(modifiers) && method.getReturnType() == int.class;
    }

    private static boolean isConstant(Field field) {
        int modifiers = field.getModifiers();
        return Modifier.isPublic(modifiers) && Modifier.isStatic(modifiers) && Modifier.isFinal(modifiers)
            && field.getType() == int.class;
    }

    private static String signature(Method method) {
        StringBuilder all = new StringBuilder(method.getName()).append('(');
        for (Class<?> type : method.getParameterTypes()) {
            all.append(all.charAt(all.length() - 1) == '(' ? "" : ",").append(type.getSimpleName());
        }
        return all.append(')').toString();
    }

    private static void classes() {
        Class<?>[] inside = SometimesSums.class.getDeclaredClasses();
        Due.is("at most twelve classes", inside.length + 1 <= MOST_CLASSES ? 1 : 0, 1);
        limits(SometimesSums.class);
        for (Class<?> each : inside) {
            int modifiers = each.getModifiers();
            boolean hidden = !Modifier.isPublic(modifiers) && !Modifier.isProtected(modifiers);
            Due.is(each + " is static and not public", Modifier.isStatic(modifiers) && hidden ? 1 : 0, 1);
            limits(each);
        }
    }

    private static void limits(Class<?> each) {
        long fields = Arrays.stream(each.getDeclaredFields()).filter(f -> !Modifier.isStatic(f.getModifiers())).count();
        Due.is(each + " has at most twenty fields", fields <= MOST_FIELDS ? 1 : 0, 1);
        for (Field field : each.getDeclaredFields()) {
            boolean constant = Modifier.isFinal(field.getModifiers()) || !Modifier.isStatic(field.getModifiers());
            Due.is(field + " is final if it is static", constant ? 1 : 0, 1);
        }
        for (Method method : each.getDeclaredMethods()) {
            Due.is(method + " has at most seven parameters", method.getParameterCount() <= MOST_PARAMETERS ? 1 : 0, 1);
        }
    }

    private static String withoutComments(String source) {
        String code = source.replaceAll("(?s)/\\*.*?\\*/", "").replaceAll("//[^\n]*", "");
        return code.replaceAll("\"[^\"\n]*\"", "\"\"").replaceAll("'[^'\n]+'", "' '");
    }

    private static void words(String code) {
        String[] forbidden = {
            "throw", "throws", "try", "catch", "finally", "synchronized", "assert", "import", "package", "protected",
            "native", "transient", "volatile", "var", "Object", "Exception", "equals", "hashCode", "toString", "Class",
            "Thread", "Runtime", "Random", "currentTimeMillis", "nanoTime", "getenv", "getProperty", "HashMap",
        };
        for (String word : forbidden) {
            Due.is("the word " + word, count(code, "\\b" + word + "\\b"), 0);
        }
        for (String sign : new String[] {"->", "::", "@", "\\.\\.\\."}) {
            Due.is("the sign " + sign, count(code, sign), 0);
        }
        Due.is("of System only arraycopy", count(code, "\\bSystem\\.(?!arraycopy\\b)"), 0);
        Due.is("of Math only min and max", count(code, "\\bMath\\.(?!min\\b|max\\b)"), 0);
        for (char c : code.toCharArray()) {
            if (c > 126) {
                Due.is("a character beyond 126", c, 0);
            }
        }
    }

    private static int count(String code, String pattern) {
        Matcher matcher = Pattern.compile(pattern).matcher(code);
        int count = 0;
        while (matcher.find()) {
            count++;
        }
        return count;
    }

    private static void methodLengths(String code) {
        int depth = 0;
        int[] start = new int[100];
        String[] lines = code.split("\n");
        for (int i = 0; i < lines.length; i++) {
            for (char c : lines[i].toCharArray()) {
                if (c == '{') {
                    start[depth++] = i;
                } else if (c == '}') {
                    depth--;
                    boolean longBlock = i - start[depth] > MOST_LINES && !lines[start[depth]].contains("class ");
                    Due.is("too long: line " + (start[depth] + 1), longBlock ? 1 : 0, 0);
                }
            }
        }
    }

    /** Runs of 512 calls of each method make next to nothing. */
    private static void room() {
        dearRun();
        var threads = (com.sun.management.ThreadMXBean) java.lang.management.ManagementFactory.getThreadMXBean();
        long id = Thread.currentThread().getId();
        long before = threads.getThreadAllocatedBytes(id);
        dearRun();
        long made = threads.getThreadAllocatedBytes(id) - before;
        Due.is("a run makes " + made + " bytes, too many", made > MOST_BYTES ? 1 : 0, 0);
    }

    private static void dearRun() {
        SometimesSums x = new SometimesSums();
        x.take(1, 3);
        x.keep();
        for (int call = 2; call < CALLS; call++) {
            dearCall(x, call);
        }
    }

    private static void dearCall(SometimesSums x, int call) {
        switch (call % 18) {
            case 0 -> x.restore();
            case 1 -> x.addThing();
            case 2 -> x.glue(3);
            case 3 -> x.twice();
            case 4 -> x.swap(2, 3);
            case 5 -> x.removeThing(4);
            case 6 -> x.type('2');
            case 7 -> x.readSums();
            case 8 -> x.setSum(2, 2, 3);
            case 9 -> x.clearSum(2, 2);
            case 10 -> x.undo();
            case 11 -> x.weighings(6);
            case 12 -> x.range(6, 5, true);
            case 13 -> x.weight(6, 2);
            case 14 -> x.block(3, 1);
            case 15 -> x.count(call / 18 % 10);
            case 16 -> x.broken(0);
            default -> x.thing(2, call / 18 % 8);
        }
    }
}
