import java.lang.reflect.Field;
import java.lang.reflect.Method;
import java.lang.reflect.Modifier;
import java.nio.charset.StandardCharsets;
import java.nio.file.Files;
import java.nio.file.Path;
import java.util.Set;
import java.util.TreeSet;
import java.util.regex.Matcher;
import java.util.regex.Pattern;

/** The public face of ../shared/DOC.md, and what of ../shared/LANGUAGE.md can be seen from the class and its words. */
public final class FaceTest {
    private static final String DOC = "../shared/DOC.md";
    private static final String SOURCE = "src/main/java/GritIsIssued.java";
    private static int right = 0;
    private static int wrong = 0;

    private static void so(String what, boolean isSo) {
        if (isSo) {
            right++;
        } else {
            wrong++;
            System.out.println("not so: " + what);
        }
    }

    public static void main(String[] args) throws Exception {
        face();
        members(GritIsIssued.class);
        words();
        library();
        lengths();
        System.out.println(right + " passed, " + wrong + " failed");
        if (wrong != 0) System.exit(1);
    }

    private static void face() throws Exception {
        Set<String> told = new TreeSet<>();
        Matcher m = Pattern.compile("public (int|long) (\\w+)\\(([^)]*)\\);").matcher(Files.readString(Path.of(DOC)));
        while (m.find()) {
            String types = m.group(3).replaceAll("(\\w+) \\w+", "$1").replace(" ", "");
            told.add(m.group(1) + " " + m.group(2) + "(" + types + ")");
        }
        Set<String> built = new TreeSet<>();
        Set<String> names = new TreeSet<>();
        for (Method method : GritIsIssued.class.getDeclaredMethods()) {
            if (!Modifier.isPublic(method.getModifiers())) continue;
            StringBuilder types = new StringBuilder();
            for (Class<?> type : method.getParameterTypes()) types.append(types.length() > 0 ? "," : "").append(type);
            built.add(method.getReturnType() + " " + method.getName() + "(" + types + ")");
            names.add(method.getName());
            so(method + " is no static one", !Modifier.isStatic(method.getModifiers()));
        }
        so("the document tells 38 methods, found " + told.size(), told.size() == 38);
        so("the face is " + told + ", built is " + built, told.equals(built));
        for (Method method : GritIsIssued.class.getDeclaredMethods()) {
            if (Modifier.isPublic(method.getModifiers())) continue;
            so(method + " is private", Modifier.isPrivate(method.getModifiers()));
            so(method + " bears no public name", !names.contains(method.getName()));
        }
        int how = GritIsIssued.class.getModifiers();
        so("public and final", Modifier.isPublic(how) && Modifier.isFinal(how));
        so("one constructor", GritIsIssued.class.getDeclaredConstructors().length == 1 && GritIsIssued.class.getConstructors().length == 1);
        for (Field field : GritIsIssued.class.getDeclaredFields()) so(field + " is private", Modifier.isPrivate(field.getModifiers()));
    }

    private static void members(Class<?> type) {
        int fields = 0;
        for (Field field : type.getDeclaredFields()) {
            boolean isStatic = Modifier.isStatic(field.getModifiers());
            so(field + " is no static state", !isStatic || Modifier.isFinal(field.getModifiers()));
            if (!isStatic) fields++;
        }
        so(type + " has some twenty fields", fields <= 20);
        for (Method method : type.getDeclaredMethods()) so(method + " takes seven at most", method.getParameterCount() <= 7);
        so("twelve classes at most", type.getDeclaredClasses().length <= 11);
        for (Class<?> inside : type.getDeclaredClasses()) {
            so(inside + " is static", Modifier.isStatic(inside.getModifiers()));
            so(inside + " is not public", !Modifier.isPublic(inside.getModifiers()) && !Modifier.isProtected(inside.getModifiers()));
            members(inside);
        }
    }

    private static String source() throws Exception {
        return new String(Files.readAllBytes(Path.of(SOURCE)), StandardCharsets.ISO_8859_1);
    }

    /** The source without comments and texts. */
    private static String code() throws Exception {
        return source().replaceAll("(?s)/\\*.*?\\*/", " ").replaceAll("//[^\n]*", " ").replaceAll("'.'", "0").replaceAll("\"[^\"]*\"", "0");
    }

    private static void words() throws Exception {
        String source = source();
        boolean plain = true;
        for (int i = 0; i < source.length(); i++) plain &= source.charAt(i) < 128;
        so("signs below 128", plain);
        String code = code();
        String[] never = {"import", "package", "throw", "throws", "try", "catch", "finally", "synchronized", "assert", "goto", "native", "volatile",
            "instanceof", "Thread", "System", "Object", "Exception", "var", "equals", "hashCode", "toString", "protected", "double", "float"};
        for (String word : never) so("no " + word, !Pattern.compile("\\b" + word + "\\b").matcher(code).find());
        so("no lambda", !code.contains("->"));
        so("no method reference", !code.contains("::"));
        so("no endless loop", !code.contains("while (true)") && !code.contains("(;;)"));
        // all calls of a run live in one room: what an object needs is made with it
        for (String line : code.split("\n")) {
            if (!Pattern.compile("\\bnew\\b").matcher(line).find()) continue;
            boolean withTheObject = line.contains("private final ") || line.contains("room[p] = new Person();");
            so("made with the object: " + line.trim(), withTheObject);
        }
    }

    /** Of the library nothing is named but what LANGUAGE.md's rule 4 lists. */
    private static void library() throws Exception {
        Set<String> own = new TreeSet<>(Set.of("GritIsIssued", "String", "Math", "Integer"));
        for (Class<?> inside : GritIsIssued.class.getDeclaredClasses()) own.add(inside.getSimpleName());
        Matcher types = Pattern.compile("\\b[A-Z]\\w*[a-z]\\w*").matcher(code());
        while (types.find()) so(types.group() + " is one's own or listed", own.contains(types.group()));
        Set<String> functions = Set.of("Math.max", "Math.min", "Integer.bitCount");
        Matcher calls = Pattern.compile("\\b(Math|Integer)\\s*\\.\\s*\\w+").matcher(code());
        while (calls.find()) so(calls.group() + " is listed", functions.contains(calls.group()));
        Set<String> called = new TreeSet<>(Set.of("length", "charAt", "isEmpty", "indexOf", "max", "min", "bitCount"));
        for (Class<?> inside : GritIsIssued.class.getDeclaredClasses()) {
            for (Method method : inside.getDeclaredMethods()) called.add(method.getName());
        }
        Matcher names = Pattern.compile("\\.\\s*(\\w+)\\(").matcher(code());
        while (names.find()) so(names.group(1) + " is one's own or listed", called.contains(names.group(1)));
    }

    /** Methods stay short: some sixty lines each. */
    private static void lengths() throws Exception {
        String[] lines = source().split("\n");
        int methods = 0;
        for (int i = 0; i < lines.length; i++) {
            Matcher head = Pattern.compile("( {4}| {8})(\\w+(\\[\\])? )*\\w+\\([^()]*\\) \\{").matcher(lines[i]);
            if (!head.matches()) continue;
            int end = i;
            while (end < lines.length && !lines[end].equals(head.group(1) + "}")) end++;
            so(lines[i].trim() + " has sixty lines at most", end - i < 60);
            methods++;
        }
        int constructorsWrittenOut = 2;
        int built = GritIsIssued.class.getDeclaredMethods().length + constructorsWrittenOut;
        for (Class<?> inside : GritIsIssued.class.getDeclaredClasses()) built += inside.getDeclaredMethods().length;
        so("each method was looked at: " + methods + " of " + built, methods == built);
    }
}
