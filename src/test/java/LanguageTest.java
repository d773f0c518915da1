import java.lang.reflect.Constructor;
import java.lang.reflect.Field;
import java.lang.reflect.Method;
import java.lang.reflect.Modifier;
import java.nio.file.Files;
import java.nio.file.Path;
import java.util.ArrayList;
import java.util.HashSet;
import java.util.List;
import java.util.Set;
import java.util.TreeSet;
import java.util.regex.Matcher;
import java.util.regex.Pattern;

/** The rules of LANGUAGE.md that can be read from the class and from its text. */
public final class LanguageTest {
    private static final Due due = new Due();

    private static final String[] FACE = {
        "int pass(int)", "int row(int, int, int, int, int, int, int)", "int takeBack(int)", "int about(int, int)",
        "int letter(int, int)", "int asOf(int)", "int way(int, int, int)", "int type(int)", "int wipe()", "int fault()",
        "int sound(int, int)", "int slips(int, int)", "int level(int, int, int)", "int points(int, int, int)",
        "int score(int, int)", "int chance(boolean, int, int, int)", "long odds(int, int, int)",
        "int belief(int, int, int, int)", "int line(int)", "int links()", "int laid(int, int, int)", "int mate(int, int)",
        "int bundle(int)", "int bundles(int)", "int torn(int)", "int cut(int, int)", "int check(int, int, boolean)",
        "int checked(int)", "int bound(int)", "int learnt(boolean, int, int)", "int meet(int, int, int)", "int pairs(int)",
        "int keys()", "int sheet(int, int, int)", "int lose(int)", "int put(int, int, int, int)", "int get(int, int, int)",
        "int copy(int, int, int, int, int)", "int write(int, int)", "int count(int)", "long digest()",
    };

    public static void main(String[] args) throws Exception {
        face();
        insides();
        text(Files.readString(Path.of(System.getProperty("oneself.root"), "src/main/java/OneSelf.java")));
        due.end();
    }

    private static void holds(String what, boolean truth) {
        due.isTrue(what, truth);
    }

    private static String signature(Method m) {
        List<String> types = new ArrayList<>();
        for (Class<?> type : m.getParameterTypes()) {
            types.add(type.getName());
        }
        return m.getReturnType().getName() + " " + m.getName() + "(" + String.join(", ", types) + ")";
    }

    // Rule 1
    private static void face() throws Exception {
        Class<OneSelf> c = OneSelf.class;
        holds("public and final", Modifier.isPublic(c.getModifiers()) && Modifier.isFinal(c.getModifiers()));
        holds("no package, no class above", c.getPackageName().isEmpty() && c.getSuperclass() == Object.class && c.getInterfaces().length == 0);
        Constructor<?>[] made = c.getDeclaredConstructors();
        holds("one constructor without arguments", made.length == 1 && Modifier.isPublic(made[0].getModifiers()) && made[0].getParameterCount() == 0);
        Set<String> open = new TreeSet<>();
        Set<String> publicNames = new HashSet<>();
        for (Method m : c.getDeclaredMethods()) {
            if (Modifier.isPrivate(m.getModifiers())) continue;
            open.add(signature(m));
            publicNames.add(m.getName());
            holds(m + " is public and no more", m.getModifiers() == Modifier.PUBLIC);
        }
        due.is("41 methods in the face", FACE.length, 41);
        holds("the face's methods: " + open, open.equals(new TreeSet<>(List.of(FACE))));
        Set<String> constants = new TreeSet<>();
        for (Field f : c.getDeclaredFields()) {
            if (!Modifier.isPrivate(f.getModifiers())) {
                constants.add(f.getName());
                holds(f + " is a constant", f.getModifiers() == (Modifier.PUBLIC | Modifier.STATIC | Modifier.FINAL) && f.getType() == int.class);
            }
        }
        holds("the face's constants: " + constants, constants.equals(new TreeSet<>(List.of("NONE", "BAD", "NOT", "FULL"))));
        List<Class<?>> all = new ArrayList<>(List.of(c.getDeclaredClasses()));
        all.add(c);
        for (Class<?> each : all) {
            for (Method m : each.getDeclaredMethods()) {
                if (each == c && Modifier.isPublic(m.getModifiers())) continue;
                holds(m + " bears no name of the face", !publicNames.contains(m.getName()));
            }
        }
    }

    // Rules 2, 3, 5, 11
    private static void insides() {
        Class<?>[] inside = OneSelf.class.getDeclaredClasses();
        holds("twelve classes at most", inside.length + 1 <= 12);
        for (Class<?> c : inside) {
            holds(c + " is static and not public", Modifier.isStatic(c.getModifiers()) && !Modifier.isPublic(c.getModifiers()) && !Modifier.isProtected(c.getModifiers()));
            holds(c + " has no class inside", c.getDeclaredClasses().length == 0);
            members(c);
        }
        members(OneSelf.class);
    }

    private static void members(Class<?> c) {
        int fields = 0;
        for (Field f : c.getDeclaredFields()) {
            boolean isStatic = Modifier.isStatic(f.getModifiers());
            holds(f + ": static fields are final", !isStatic || Modifier.isFinal(f.getModifiers()));
            if (!isStatic) fields++;
            if (f.getType().isArray()) holds(f + " is of one dimension, of numbers", f.getType().getComponentType().isPrimitive());
        }
        holds(c + " has twenty fields at most", fields <= 20);
        for (Method m : c.getDeclaredMethods()) {
            holds(m + " takes seven at most", m.getParameterCount() <= 7);
            holds(m + " is no lambda", !m.isSynthetic());
        }
    }

    // Rules 4, 6, 10, 11, 13
    private static void text(String whole) {
        for (char c : whole.toCharArray()) {
            if (c > 126 || c < 32 && c != '\n') holds("a sign beyond the plain ones: " + (int) c, false);
        }
        String code = whole.replaceAll("(?s)/\\*.*?\\*/", "").replaceAll("//[^\n]*", "");
        String[] words = {
            "throw", "throws", "try", "catch", "finally", "synchronized", "assert", "instanceof", "enum", "record", "interface",
            "package", "native", "volatile", "transient", "yield", "var", "equals", "hashCode", "toString", "System\\.(?!arraycopy)\\w+",
            "Thread", "Random", "File", "String", "Object", "Class", "Exception", "double", "float", "protected", "\\w+Exact",
        };
        for (String word : words) {
            holds("no " + word, !Pattern.compile("\\b" + word + "\\b").matcher(code).find());
        }
        holds("no lambda, no method reference", !code.contains("->") && !code.contains("::"));
        holds("no annotation", !code.contains("@"));
        Matcher imports = Pattern.compile("import ([^;]*);").matcher(code);
        while (imports.find()) {
            holds("import " + imports.group(1), imports.group(1).equals("java.util.Arrays"));
        }
        Matcher library = Pattern.compile("\\b(Math|Arrays|Integer|Long|System)\\.(\\w+)").matcher(code);
        Set<String> allowed = Set.of("Math.min", "Math.max", "Math.abs", "Arrays.fill", "Integer.bitCount", "System.arraycopy");
        while (library.find()) {
            holds("the library: " + library.group(), allowed.contains(library.group()));
        }
        lengths(code);
    }

    private static void lengths(String code) {
        String[] lines = code.split("\n");
        int start = 0;
        for (int i = 0; i < lines.length; i++) {
            if (lines[i].matches(" {4}( {4})?(public |private |static |boolean |int |long |void )[^=;]*\\(.*")) start = i;
            if (lines[i].matches(" {4}( {4})?\\}")) holds("a method of some sixty lines, from line " + start, i - start <= 60 || lines[i].equals("    }"));
            holds("line " + i + " is no longer than 110", lines[i].length() <= 110);
        }
    }
}
