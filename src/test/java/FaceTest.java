import java.io.IOException;
import java.lang.reflect.Constructor;
import java.lang.reflect.Field;
import java.lang.reflect.Method;
import java.lang.reflect.Modifier;
import java.nio.file.Files;
import java.nio.file.Path;
import java.util.List;
import java.util.Set;
import java.util.TreeSet;
import java.util.regex.Matcher;
import java.util.regex.Pattern;

/** The document's face and no more, and those rules of LANGUAGE.md that a look can tell. */
public final class FaceTest {
    private static final Set<String> FACE = Set.of(
            "int begin(int)", "int type(long,int)", "int clear()", "int read()", "int add()",
            "int drop(int)", "int set(int,int,int,boolean)", "int distance(int,int)", "int cities()",
            "int flaw(int)", "long tree()", "int hung(int)", "int cut(int)", "int odd(int)",
            "long match()", "int partner(int)", "long prices()", "int round()", "int corner(int)",
            "long build(int,int)", "int stop(int)", "int place(int)", "long length()",
            "int better(int,int)", "long best()", "long bound(int,int)", "long penalty(int)",
            "int forgive()");
    private static final Set<String> CONSTANTS =
            Set.of("NONE=-1", "UNKNOWN=-101", "OUTSIDE=-102", "STATE=-103", "ROOM=-104");

    public static void main(String[] args) throws ReflectiveOperationException, IOException {
        face();
        for (Class<?> inside : RoundTours.class.getDeclaredClasses()) {
            Due.that(Modifier.isStatic(inside.getModifiers()), inside + " is static");
            Due.that(!Modifier.isPublic(inside.getModifiers()), inside + " is not public");
            members(inside);
        }
        members(RoundTours.class);
        Due.that(RoundTours.class.getDeclaredClasses().length < 12, "at most twelve classes");
        source(Files.readString(Path.of("src/main/java/RoundTours.java")));
        Due.end();
    }

    private static void face() throws ReflectiveOperationException {
        Due.that(Modifier.isFinal(RoundTours.class.getModifiers()), "the class is final");
        Due.that(Modifier.isPublic(RoundTours.class.getModifiers()), "the class is public");
        Constructor<?>[] made = RoundTours.class.getDeclaredConstructors();
        Due.that(made.length == 1 && Modifier.isPublic(made[0].getModifiers())
                && made[0].getParameterCount() == 0, "one public constructor without parameters");
        Set<String> methods = new TreeSet<>();
        Set<String> names = new TreeSet<>();
        for (Method m : RoundTours.class.getDeclaredMethods()) {
            if (!Modifier.isPrivate(m.getModifiers())) {
                methods.add(told(m));
                names.add(m.getName());
                Due.that(Modifier.isPublic(m.getModifiers()), m + " is public");
            }
        }
        Due.that(methods.equals(FACE), "the methods are " + FACE + ", but " + methods);
        for (Method m : RoundTours.class.getDeclaredMethods()) {
            boolean hidden = Modifier.isPrivate(m.getModifiers());
            Due.that(!hidden || !names.contains(m.getName()), m + " bears a name of its own");
        }
        Set<String> constants = new TreeSet<>();
        for (Field f : RoundTours.class.getDeclaredFields()) {
            if (!Modifier.isPrivate(f.getModifiers())) {
                constants.add(f.getName() + "=" + f.get(null));
            }
        }
        Due.that(constants.equals(CONSTANTS), "the constants are " + CONSTANTS + ", but " + constants);
    }

    private static String told(Method m) {
        StringBuilder all = new StringBuilder(m.getReturnType() + " " + m.getName() + "(");
        for (Class<?> type : m.getParameterTypes()) {
            all.append(all.charAt(all.length() - 1) == '(' ? "" : ",").append(type);
        }
        return all.append(")").toString();
    }

    private static void members(Class<?> type) {
        int fields = 0;
        for (Field f : type.getDeclaredFields()) {
            boolean fixed = Modifier.isStatic(f.getModifiers());
            Due.that(!fixed || Modifier.isFinal(f.getModifiers()), f + " is final");
            fields += fixed ? 0 : 1;
        }
        Due.that(fields <= 20, type + " has at most twenty fields");
        for (Method m : type.getDeclaredMethods()) {
            Due.that(m.getParameterCount() <= 7, m + " has at most seven parameters");
            Due.that(!Modifier.isNative(m.getModifiers()), m + " is plain");
        }
    }

    private static void source(String text) {
        String plain = text.replaceAll("(?s)/\\*.*?\\*/", "").replaceAll("//.*", "");
        String[] words = {"throw", "throws", "try", "catch", "synchronized", "assert", "double", "float",
            "System\\.(?!arraycopy)", "Math\\.(?!abs|max|min)", "Arrays\\.(?!fill|copyOf)",
            "Integer\\.(?!bitCount)", "Long\\.(?!compare)", "Object",
            "package", "native", "volatile", "var"};
        for (String word : words) {
            Due.that(!Pattern.compile("\\b" + word + (word.endsWith(")") ? "" : "\\b")).matcher(plain).find(),
                    "no " + word);
        }
        Due.that(!plain.contains("->") && !plain.contains("::"), "no lambda, no method reference");
        Due.that(!plain.contains("while (true)") && !plain.contains("for (;;)"), "loops have an end");
        Matcher imports = Pattern.compile("import (.*?);").matcher(plain);
        while (imports.find()) {
            Due.that(List.of("java.util.Arrays").contains(imports.group(1)), "no import of " + imports.group(1));
        }
        for (char c : text.toCharArray()) {
            Due.that(c <= 255, "only characters 0 to 255");
        }
        methodLengths(plain.split("\n"));
    }

    private static void methodLengths(String[] lines) {
        for (int i = 0; i < lines.length; i++) {
            String line = lines[i];
            boolean opens = line.matches(" {4}( {4})?\\S.*\\) \\{");
            String close = line.replaceAll("\\S.*", "") + "}";
            for (int j = i; opens && j < lines.length; j++) {
                if (lines[j].equals(close)) {
                    Due.that(j - i < 60, "at most sixty lines: " + line.trim());
                    break;
                }
            }
        }
    }
}
