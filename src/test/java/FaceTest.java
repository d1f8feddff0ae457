import java.lang.reflect.Constructor;
import java.lang.reflect.Field;
import java.lang.reflect.Method;
import java.lang.reflect.Modifier;
import java.nio.file.Files;
import java.nio.file.Path;
import java.util.Arrays;
import java.util.List;
import java.util.TreeSet;

/** The face is the document's and nothing more; the source keeps to what LANGUAGE.md leaves. */
public final class FaceTest {
    private static final String FACE = "boolean closed(int) boolean leaves() boolean within(int) int bracket(int,int,int)"
        + " int count(int) int equation(int) int fault() int feed(int,int,int,int,int) int field(int) int fields(int)"
        + " int image() int keeps(int,int,int) int kind(int,int) int lines(int) int rest(int) int restore()"
        + " int shifted(int,int) int solution(int) int solves() int steps(int,int,int) int stretch(int,int)"
        + " int stretched(int,int) int stretches() int sums(int) int term(int) int told(int) int wave(int,int)"
        + " long constant(int,int,int,int,int) long left(int,int) long number(int,int,int,int) long sum(int,int,int,int)";
    private static int wrong;

    private static void check(boolean good, String what) {
        if (!good) {
            wrong++;
            System.out.println("FaceTest: " + what);
        }
    }

    public static void main(String[] args) throws Exception {
        members();
        document(Files.readString(Path.of("../shared/DOC.md")));
        nested();
        source(Files.readString(Path.of("src/main/java/MotionSigns.java")));
        System.out.println("FaceTest: " + wrong + " wrong");
        if (wrong != 0) {
            System.exit(1);
        }
    }

    private static void members() {
        Class<?> c = MotionSigns.class;
        check(Modifier.isFinal(c.getModifiers()) && Modifier.isPublic(c.getModifiers()), "the class is public and final");
        TreeSet<String> face = new TreeSet<>();
        TreeSet<String> names = new TreeSet<>();
        for (Method m : c.getDeclaredMethods()) {
            if (Modifier.isPublic(m.getModifiers())) {
                StringBuilder s = new StringBuilder(m.getReturnType() + " " + m.getName() + "(");
                for (Class<?> p : m.getParameterTypes()) {
                    s.append(s.charAt(s.length() - 1) == '(' ? "" : ",").append(p);
                }
                face.add(s.append(')').toString());
                names.add(m.getName());
            } else {
                check(Modifier.isPrivate(m.getModifiers()), "not private: " + m);
            }
        }
        for (Method m : c.getDeclaredMethods()) {
            check(Modifier.isPublic(m.getModifiers()) || !names.contains(m.getName()), "a public one's name: " + m);
        }
        check(face.equals(new TreeSet<>(Arrays.asList(FACE.split("(?<=\\)) ")))), "the face is " + face);
        for (Field f : c.getDeclaredFields()) {
            check(Modifier.isPrivate(f.getModifiers()) || f.getName().equals("NONE"), "not private: " + f);
        }
        Constructor<?>[] made = c.getDeclaredConstructors();
        check(made.length == 1 && Modifier.isPublic(made[0].getModifiers()) && made[0].getParameterCount() == 0, "constructors");
    }

    /** Each line of the document's face: what a method answers, takes and throws, and the constant's number. */
    private static void document(String text) throws Exception {
        String face = text.substring(text.indexOf("public final class"), text.indexOf("```", text.indexOf("public final class")));
        int methods = 0;
        for (String line : face.split("\n")) {
            if (line.contains("static final int NONE = -1;")) {
                Field none = MotionSigns.class.getField("NONE");
                check(none.getInt(null) == -1 && none.getType() == int.class && Modifier.isFinal(none.getModifiers()), "NONE");
            } else if (line.contains("(") && !line.contains("MotionSigns(")) {
                methods++;
                check(hasMethod(line.trim()), "not as the document has it: " + line.trim());
            }
        }
        check(methods == 31, "the document's face has " + methods + " methods");
    }

    private static boolean hasMethod(String due) {
        for (Method m : MotionSigns.class.getMethods()) {
            String head = "public " + m.getReturnType() + " " + m.getName() + "(";
            String takes = due.substring(due.indexOf('(') + 1, due.indexOf(')')).trim();
            StringBuilder fails = new StringBuilder();
            for (Class<?> e : m.getExceptionTypes()) {
                fails.append(fails.length() == 0 ? " throws " : ", ").append(e.getSimpleName());
            }
            if (due.startsWith(head) && m.getParameterCount() == (takes.isEmpty() ? 0 : takes.split(",").length)
                    && due.endsWith(")" + fails + ";")) {
                return true;
            }
        }
        return false;
    }

    private static void nested() {
        Class<?>[] all = MotionSigns.class.getDeclaredClasses();
        check(all.length + 1 <= 13, "too many classes: " + all.length);
        for (Class<?> c : all) {
            check(Modifier.isStatic(c.getModifiers()) || c.isInterface(), "not static: " + c);
            check(!Modifier.isPublic(c.getModifiers()) && !Modifier.isProtected(c.getModifiers()), "seen from outside: " + c);
            for (Method m : c.getDeclaredMethods()) {
                check(m.getParameterCount() <= 7, "too many parameters: " + m);
                check(!FACE.contains(" " + m.getName() + "("), "a public one's name: " + m);
            }
            for (Field f : c.getDeclaredFields()) {
                check(!Modifier.isStatic(f.getModifiers()) || Modifier.isFinal(f.getModifiers()), "static, but not final: " + f);
            }
            long fields = Arrays.stream(c.getDeclaredFields()).filter(f -> !Modifier.isStatic(f.getModifiers())).count();
            check(fields <= 22, "too many fields: " + c);
        }
    }

    private static boolean has(String code, String pattern) {
        return java.util.regex.Pattern.compile(pattern).matcher(code).find();
    }

    /** What LANGUAGE.md rules out and can be seen in the text. */
    private static void source(String text) {
        String code = text.replaceAll("(?s)/\\*.*?\\*/", "").replaceAll("//.*", "").replaceAll("@Override", "");
        for (String no : List.of("(?m)^(?!.*\\b(case|default)\\b).*->", "::", "\\bfinally\\b", "\\bsynchronized\\b", "\\bassert\\b",
                "\\bSystem\\.(?!arraycopy)", "\\bThread\\b", "\\bRandom\\b", "\\bObject\\b", "Exact\\(", "@", "\\bpackage\\b",
                "while \\(true\\)", "for \\(;;\\)", "\\bgetMessage\\b", "\\btry \\(", "\\bMath\\.(sqrt|pow|random|floor\\()",
                "catch \\((final )?(Throwable|Exception|RuntimeException|Error|IndexOutOfBounds|ArrayIndex|NullPointer|ClassCast"
                + "|NegativeArraySize|ArrayStore)")) {
            check(!has(code, no), "has " + no);
        }
        for (String line : code.split("\n")) {
            check(!line.startsWith("import ")
                || has(line, "^import java\\.util\\.(ArrayList|Arrays|Iterator|List|NoSuchElementException);$"), line);
        }
        int begin = 0;
        String[] lines = text.split("\n");
        for (int i = 0; i < lines.length; i++) {
            if (lines[i].matches("( {4}| {8})[A-Za-z].*[({,]") && !lines[i].contains(" class ")) {
                begin = lines[i].contains("(") ? i : begin;
            }
            if (lines[i].matches("( {4}| {8})}") && lines[begin].startsWith(lines[i].substring(0, lines[i].length() - 1))
                    && lines[begin].charAt(lines[i].length() - 1) != ' ') {
                check(i - begin <= 65, "a long method: " + lines[begin]);
            }
        }
    }
}
