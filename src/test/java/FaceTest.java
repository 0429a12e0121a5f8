import java.io.IOException;
import java.lang.reflect.Constructor;
import java.lang.reflect.Field;
import java.lang.reflect.Method;
import java.lang.reflect.Modifier;
import java.nio.charset.StandardCharsets;
import java.nio.file.Files;
import java.nio.file.Path;
import java.util.Arrays;
import java.util.HashSet;
import java.util.Set;
import java.util.TreeSet;
import java.util.regex.Matcher;
import java.util.regex.Pattern;

/** The public face, those rules of LANGUAGE.md that can be looked at, and that no call throws. */
public final class FaceTest {
    private static final Due DUE = new Due("FaceTest");
    private static final String[] FACE = {
        "int type(int)", "int clear()", "int store()", "int item(int,int)", "int at(int)", "int now(int)",
        "int puts(int,int)", "int lists(int,int)", "int adds()", "int cuts(int,int)", "int sorts()", "int undo()",
        "int lap(int)", "int arc(int,int,int)", "long orders()", "long number()", "int kth(long,int)",
        "int days(int)", "int sees(int,int)", "int forget()", "int unseen(int)", "int look()", "int keep(int)",
        "int back(int)", "int count(int)",
    };

    public static void main(String[] args) throws Exception {
        constants();
        face();
        classesInside();
        source();
        anyNumbers();
        DUE.end();
    }

    private static void constants() {
        DUE.is("BAD", ArcOrder.BAD, -1);
        DUE.is("STATE", ArcOrder.STATE, -2);
        DUE.is("FULL", ArcOrder.FULL, -3);
        DUE.is("RING", ArcOrder.RING, -4);
        DUE.is("NONE", ArcOrder.NONE, -9);
    }

    private static void face() {
        Set<String> found = new TreeSet<>();
        for (Method method : ArcOrder.class.getDeclaredMethods()) {
            if (Modifier.isPublic(method.getModifiers())) {
                String parameters = Arrays.toString(method.getParameterTypes()).replaceAll("[\\[\\] ]", "");
                found.add(method.getReturnType() + " " + method.getName() + "(" + parameters + ")");
            } else if (!method.isSynthetic()) {
                DUE.is(method.getName() + " private", String.valueOf(Modifier.isPrivate(method.getModifiers())), "true");
            }
        }
        DUE.is("face", found.toString(), new TreeSet<>(Arrays.asList(FACE)).toString());
        Set<String> open = new TreeSet<>();
        for (Field field : ArcOrder.class.getDeclaredFields()) {
            if (!Modifier.isPrivate(field.getModifiers())) {
                open.add(field.getName());
            }
        }
        DUE.is("open fields", open.toString(), "[BAD, FULL, NONE, RING, STATE]");
        Constructor<?>[] constructors = ArcOrder.class.getDeclaredConstructors();
        DUE.is("constructors", constructors.length, 1);
        DUE.is("final", String.valueOf(Modifier.isFinal(ArcOrder.class.getModifiers())), "true");
    }

    private static void classesInside() {
        Set<String> names = new HashSet<>();
        for (String method : FACE) {
            names.add(method.replaceAll("^\\w+ |\\(.*", ""));
        }
        Class<?>[] inside = ArcOrder.class.getDeclaredClasses();
        DUE.is("at most 12 classes", inside.length <= 11 ? 1 : 0, 1);
        for (Class<?> one : inside) {
            DUE.is(one + " static", String.valueOf(Modifier.isStatic(one.getModifiers())), "true");
            DUE.is(one + " at most 20 fields", one.getDeclaredFields().length <= 20 ? 1 : 0, 1);
            for (Method method : one.getDeclaredMethods()) {
                DUE.is(one + " " + method.getName() + " is a name of the face", names.contains(method.getName()) ? 1 : 0, 0);
                DUE.is(method.getName() + " at most 7 parameters", method.getParameterCount() <= 7 ? 1 : 0, 1);
            }
        }
    }

    private static void source() throws IOException {
        String source = Files.readString(Path.of("src/main/java/ArcOrder.java"), StandardCharsets.UTF_8);
        String code = source.replaceAll("(?s)/\\*.*?\\*/", "").replaceAll("//[^\n]*", "");
        String[] not = {"throw", "try", "catch", "synchronized", "assert", "->", "::", "package", "double", "float"};
        for (String word : not) {
            String pattern = word.matches("\\w+") ? "\\b" + word + "\\b" : Pattern.quote(word);
            DUE.is("no " + word, Pattern.compile(pattern).matcher(code).find() ? 1 : 0, 0);
        }
        Matcher imports = Pattern.compile("import ([^;]*);").matcher(code);
        while (imports.find()) {
            DUE.is("import", imports.group(1), "java.util.Arrays");
        }
        for (char sign : source.toCharArray()) {
            if (sign > 127) {
                DUE.is("a sign above 127", sign, 0);
            }
        }
        methodsAreShort(source.split("\n"));
    }

    /** A method begins with a line that ends in ") {" and is no statement, and ends with a brace as far to the right. */
    private static void methodsAreShort(String[] lines) {
        Pattern head = Pattern.compile("( {4}| {8})(?!if |for |while |switch |do |else )\\w.*\\) \\{");
        int methods = 0;
        for (int i = 0; i < lines.length; i++) {
            Matcher matcher = head.matcher(lines[i]);
            if (matcher.matches()) {
                int end = i;
                while (end < lines.length - 1 && !lines[end].equals(matcher.group(1) + "}")) {
                    end++;
                }
                methods++;
                DUE.is(lines[i].trim() + " at most 60 lines", end - i + 1 <= 60 ? 1 : 0, 1);
                DUE.is(lines[i].trim() + " makes no object", makesObject(lines, i, end) ? 1 : 0, 0);
            }
        }
        DUE.is("methods are found", methods >= FACE.length ? 1 : 0, 1);
    }

    /** All calls live in one room: only constructors, whose heads have no type and no second word, may fill it. */
    private static boolean makesObject(String[] lines, int head, int end) {
        boolean isConstructor = lines[head].trim().matches("(public )?\\w+\\(.*");
        for (int i = head; i <= end && !isConstructor; i++) {
            if (lines[i].replaceAll("//.*|/?\\*.*", "").matches(".*(\\bnew\\b|clone\\(|copyOf(Range)?\\(\\w+, ).*")) {
                return true;
            }
        }
        return false;
    }

    /** No call may throw, whatever the numbers are. */
    private static void anyNumbers() throws Exception {
        int[] odd = {Integer.MIN_VALUE, -1, 0, 1, 2, 3, 11, 12, 13, 31, 32, 33, 120, 255, 256, Integer.MAX_VALUE};
        ArcOrder x = new ArcOrder();
        for (Method method : ArcOrder.class.getDeclaredMethods()) {
            if (Modifier.isPublic(method.getModifiers())) {
                for (int i = 0; i < odd.length * odd.length; i++) {
                    Object[] with = new Object[method.getParameterCount()];
                    for (int k = 0; k < with.length; k++) {
                        int one = k == 0 ? odd[i / odd.length] : k == 1 ? odd[i % odd.length] : i % 5 - 1;
                        with[k] = method.getParameterTypes()[k] == long.class ? (Object) (long) one : (Object) one;
                    }
                    method.invoke(x, with);
                }
            }
        }
        DUE.is("items behind any calls", x.count(0) >= 1 ? 1 : 0, 1);
    }
}
