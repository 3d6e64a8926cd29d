import java.lang.reflect.Constructor;
import java.lang.reflect.Field;
import java.lang.reflect.Member;
import java.lang.reflect.Method;
import java.lang.reflect.Modifier;
import java.nio.file.Files;
import java.nio.file.Path;
import java.util.Arrays;
import java.util.TreeSet;
import java.util.regex.Matcher;
import java.util.regex.Pattern;

/** The public face, and the rules of LANGUAGE.md that can be seen from outside or from the source's words. */
public final class FaceTest {
    private static final String[] METHODS = {
        "int house(int,int,int,int)", "int ofAppliance(int,int)", "int level(int,int,int)", "int meter(int,int,int,int)",
        "int value(int)", "int base(int)", "int at(int,int)", "int rest(int)", "int best(int)", "int energy(int)",
        "int day(int,int,int,int,int)", "int jump(int)", "int ways(int)", "int longest(int)", "int share(int)", "long mean()",
        "int reading(int,int)", "int back(int)", "int kinds(int)", "int firsts(int)", "long odds(int,int)",
        "int sheet(int,int,int)", "int lose(int)", "int put(int,int,int)", "long cell(int,int,int)",
        "int copy(int,int,int,int,int)", "int tell(int)", "int metered(int)", "int as(int,int)", "int trace()", "int fault()",
        "int many(int)"};
    private static final String[] FIELDS = {"int UNKNOWN", "int OUTSIDE", "int STATE", "int FULL", "int NONE", "long LOST"};
    private static final String[] NEVER = {"throw", "throws", "try", "catch", "synchronized", "assert", "lambda", "->", "::",
        "Exact\\(", "float", "double", "protected", "hashCode", "toString", "package", "native", "volatile", "transient"};
    private static final String[] LIBRARY = {"Arrays.fill", "System.arraycopy", "Math.min", "Math.max", "Integer.bitCount",
        "Long.MIN_VALUE", "java.util"};
    private static final int MOST_LINES = 60;

    private static final Check check = new Check();

    public static void main(String[] args) throws Exception {
        members();
        constants();
        classesInside();
        words();
        check.end();
    }

    private static void due(String what, boolean holds) {
        check.due(what, holds ? 1 : 0, 1);
    }

    private static String told(Method m) {
        StringBuilder text = new StringBuilder(m.getReturnType().getName()).append(' ').append(m.getName()).append('(');
        for (int p = 0; p < m.getParameterCount(); p++) {
            text.append(p == 0 ? "" : ",").append(m.getParameterTypes()[p].getName());
        }
        return text.append(')').toString();
    }

    private static boolean isPrivate(Member member) {
        return Modifier.isPrivate(member.getModifiers());
    }

    private static void members() {
        due("the class is public and final", LoadCycles.class.getModifiers() == (Modifier.PUBLIC | Modifier.FINAL));
        TreeSet<String> methods = new TreeSet<>();
        TreeSet<String> names = new TreeSet<>();
        for (Method m : LoadCycles.class.getDeclaredMethods()) {
            if (!isPrivate(m)) {
                methods.add(told(m));
                names.add(m.getName());
                due(m + " is public alone", m.getModifiers() == Modifier.PUBLIC);
            }
        }
        check.due("methods", methods.equals(new TreeSet<>(Arrays.asList(METHODS))) ? 1 : 0, 1);
        for (Method m : LoadCycles.class.getDeclaredMethods()) {
            due(m + " has a public one's name", !isPrivate(m) || !names.contains(m.getName()));
            due(m + " has at most seven parameters", m.getParameterCount() <= 7);
        }
        TreeSet<String> fields = new TreeSet<>();
        for (Field f : LoadCycles.class.getDeclaredFields()) {
            if (!isPrivate(f)) {
                fields.add(f.getType().getName() + ' ' + f.getName());
                due(f + " is a constant", f.getModifiers() == (Modifier.PUBLIC | Modifier.STATIC | Modifier.FINAL));
            }
        }
        due("constants", fields.equals(new TreeSet<>(Arrays.asList(FIELDS))));
        Constructor<?>[] made = LoadCycles.class.getDeclaredConstructors();
        due("one constructor", made.length == 1 && made[0].getParameterCount() == 0 && Modifier.isPublic(made[0].getModifiers()));
    }

    private static void constants() {
        check.due("UNKNOWN", LoadCycles.UNKNOWN, -1);
        check.due("OUTSIDE", LoadCycles.OUTSIDE, -2);
        check.due("STATE", LoadCycles.STATE, -3);
        check.due("FULL", LoadCycles.FULL, -4);
        check.due("NONE", LoadCycles.NONE, -9);
        check.due("LOST", LoadCycles.LOST, Long.MIN_VALUE);
    }

    private static void classesInside() {
        due("some twelve classes", LoadCycles.class.getDeclaredClasses().length <= 12);
        for (Class<?> inside : LoadCycles.class.getDeclaredClasses()) {
            due(inside + " is static", Modifier.isStatic(inside.getModifiers()));
            due(inside + " is not public", !Modifier.isPublic(inside.getModifiers()));
            statics(inside);
        }
        statics(LoadCycles.class);
    }

    private static void statics(Class<?> of) {
        int own = 0;
        for (Field f : of.getDeclaredFields()) {
            due(f + " is final, if static", !Modifier.isStatic(f.getModifiers()) || Modifier.isFinal(f.getModifiers()));
            own += Modifier.isStatic(f.getModifiers()) ? 0 : 1;
        }
        due(of + " has some twenty fields", own <= 20);
    }

    private static void words() throws Exception {
        String source = Files.readString(Path.of("src/main/java/LoadCycles.java"));
        String code = source.replaceAll("(?s)/\\*.*?\\*/", "").replaceAll("//[^\n]*", "");
        due("signs 1 to 127", source.chars().allMatch(c -> c >= 1 && c <= 127));
        for (String word : NEVER) {
            boolean isWord = word.matches("[a-z]\\w*");
            due("no " + word, !Pattern.compile(isWord ? "\\b" + word + "\\b" : word).matcher(code).find());
        }
        Matcher library = Pattern.compile("\\b((?!Sheet|House)[A-Z][A-Za-z]*|java)\\.\\w+").matcher(code);
        while (library.find()) {
            due("the library's " + library.group(), Arrays.asList(LIBRARY).contains(library.group()));
        }
        Matcher method = Pattern.compile("(?m)^( {4}| {8})[a-z][^;=\n]*\\([^;\n]*\\{\n(?s:.*?)\n\\1\\}").matcher(code);
        int methods = 0;
        while (method.find()) {
            methods++;
            due("short: " + method.group().trim().split("\n")[0], method.group().split("\n").length <= MOST_LINES);
        }
        due("methods were found: " + methods, methods > 60);
    }
}
