import java.io.IOException;
import java.lang.reflect.Constructor;
import java.lang.reflect.Field;
import java.lang.reflect.Method;
import java.lang.reflect.Modifier;
import java.nio.file.Files;
import java.nio.file.Path;
import java.util.Set;
import java.util.TreeSet;
import java.util.regex.Matcher;
import java.util.regex.Pattern;

/** The face of the document and those rules of LANGUAGE.md that can be looked up; argument: the project's directory. */
public final class RulesTest {
    private static final Set<String> FACE = Set.of(
        "int letter(int)", "int blank()", "int fault()", "int book()", "int type(int)",
        "int about(int,int)", "int instance(int,int)", "int as(int,int)", "int change(int,int)",
        "int pair(int,int,int)", "int fits(int,int)", "int goal(int,int,int)", "int entry(int,int,int)",
        "int need(int,int,int,int)", "int see(int,int,boolean)", "int forget()", "int drawn(int,int,int)",
        "int image()", "int restore()", "int count(int)", "long digest()");
    private static final Set<String> CONSTANTS = Set.of("NONE=-1", "UNKNOWN=-101", "OUTSIDE=-102", "STATE=-103", "FULL=-104");

    private static int wrong = 0;

    public static void main(String[] args) throws IOException, IllegalAccessException {
        checkFace();
        checkClasses();
        checkText(args.length > 0 ? args[0] : ".");
        checkRoom();
        System.out.println(wrong == 0 ? "the rules are kept" : wrong + " rules are broken");
        if (wrong != 0) {
            System.exit(1);
        }
    }

    private static void check(String rule, boolean kept) {
        if (!kept) {
            wrong++;
            System.out.println("broken: " + rule);
        }
    }

    private static void checkFace() throws IllegalAccessException {
        Class<?> face = DictProof.class;
        check("public and final", Modifier.isPublic(face.getModifiers()) && Modifier.isFinal(face.getModifiers()));
        Set<String> methods = new TreeSet<>();
        for (Method method : face.getDeclaredMethods()) {
            if (!Modifier.isPrivate(method.getModifiers()) && !method.isSynthetic()) {
                check("public: " + method, Modifier.isPublic(method.getModifiers()));
                methods.add(signature(method));
            }
        }
        check("methods are " + methods, methods.equals(FACE));
        Set<String> constants = new TreeSet<>();
        for (Field field : face.getDeclaredFields()) {
            if (!Modifier.isPrivate(field.getModifiers())) {
                constants.add(field.getName() + "=" + field.getInt(null));
            }
        }
        check("constants are " + constants, constants.equals(CONSTANTS));
        Constructor<?>[] constructors = face.getDeclaredConstructors();
        check("one public constructor", constructors.length == 1
            && Modifier.isPublic(constructors[0].getModifiers()) && constructors[0].getParameterCount() == 0);
    }

    private static String signature(Method method) {
        StringBuilder text = new StringBuilder(method.getReturnType() + " " + method.getName() + "(");
        for (int i = 0; i < method.getParameterCount(); i++) {
            text.append(i == 0 ? "" : ",").append(method.getParameterTypes()[i]);
        }
        return text.append(")").toString();
    }

    private static void checkClasses() {
        Class<?>[] inside = DictProof.class.getDeclaredClasses();
        check("at most twelve classes", inside.length < 12);
        Set<String> names = new TreeSet<>();
        for (String method : FACE) {
            names.add(method.substring(method.indexOf(' ') + 1, method.indexOf('(')));
        }
        for (Method method : DictProof.class.getDeclaredMethods()) {
            check("name of a public one: " + method, !Modifier.isPrivate(method.getModifiers()) || !names.contains(method.getName()));
        }
        for (Class<?> one : inside) {
            check("static: " + one, Modifier.isStatic(one.getModifiers()) && !Modifier.isPublic(one.getModifiers()));
            for (Method method : one.getDeclaredMethods()) {
                check("at most seven parameters: " + method, method.getParameterCount() <= 7);
                check("name of a public one: " + method, !names.contains(method.getName()));
            }
            int fields = 0;
            for (Field field : one.getDeclaredFields()) {
                boolean isStatic = Modifier.isStatic(field.getModifiers());
                check("static fields are final: " + field, !isStatic || Modifier.isFinal(field.getModifiers()));
                fields += isStatic ? 0 : 1;
            }
            check("at most twenty fields: " + one, fields <= 20);
        }
    }

    private static void checkText(String project) throws IOException {
        String text = Files.readString(Path.of(project, "src/main/java/DictProof.java"));
        check("plain signs", text.chars().allMatch(c -> c == '\n' || c >= 32 && c < 127));
        String code = text.replaceAll("(?s)/\\*.*?\\*/", " ").replaceAll("//[^\n]*", " ");
        String[] words = {"throw", "throws", "try", "catch", "finally", "synchronized", "assert", "package", "import", "Object",
            "System", "Thread", "instanceof", "interface", "var", "native", "volatile", "hashCode", "equals", "toString"};
        for (String word : words) {
            check("no " + word, !Pattern.compile("\\b" + word + "\\b").matcher(code).find());
        }
        check("no lambda, no method reference", !code.contains("->") && !code.contains("::"));
        check("no static block", !Pattern.compile("static\\s*\\{").matcher(code).find());
        check("no text joined", !code.contains("\""));
        checkLengths(code);
    }

    private static void checkLengths(String code) {
        Matcher start = Pattern.compile("(?m)^( {4}| {8})[A-Za-z][^\n;=]*\\) \\{$").matcher(code);
        int methods = 0;
        while (start.find()) {
            methods++;
            int end = code.indexOf("\n" + start.group(1) + "}", start.end());
            int lines = (int) code.substring(start.start(), end).chars().filter(c -> c == '\n').count();
            check("some sixty lines: " + start.group(), lines <= 60);
        }
        check("methods are found", methods > 60);
    }

    /** Calls make nothing: the room is the same for one call and for all of them. */
    private static void checkRoom() {
        DictProof d = new DictProof();
        com.sun.management.ThreadMXBean threads =
            (com.sun.management.ThreadMXBean) java.lang.management.ManagementFactory.getThreadMXBean();
        String book = "-,0,01,12;n0ppxyx0x0y,n1lx0x1x,n2pxx2x,n3x,d3i,s0i";
        char[] letters = book.toCharArray();
        char[] type = "lllpiilli".toCharArray();
        long sum = useAll(d, letters, type);
        long before = threads.getThreadAllocatedBytes(Thread.currentThread().getId());
        for (int i = 0; i < 200; i++) {
            sum += useAll(d, letters, type);
        }
        long made = threads.getThreadAllocatedBytes(Thread.currentThread().getId()) - before;
        check("calls make nothing, but " + made + " bytes were made (" + sum + ")", made < 20000);
    }

    private static long useAll(DictProof d, char[] book, char[] type) {
        long sum = 0;
        for (char c : book) {
            sum += d.letter(c);
        }
        sum += d.fault() + d.book();
        for (int slot = 0; slot < 4; slot++) {
            for (char c : type) {
                sum += d.letter(c);
            }
            sum += d.type(slot) + d.blank();
        }
        sum += d.about(1, 1) + d.instance(0, 7) + d.as(0, 0) + d.change(1, 3) + d.pair(0, 1, 1) + d.fits(0, 0);
        sum += d.goal(0, 0, 2) + d.entry(1, 0, 1) + d.need(0, 0, 0, 0) + d.see(0, 0, true) + d.image();
        return sum + d.drawn(30, 1, 0) + d.restore() + d.forget() + d.count(5) + d.digest();
    }
}
