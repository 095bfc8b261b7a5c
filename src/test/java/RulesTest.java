import java.io.IOException;
import java.lang.management.ManagementFactory;
import java.lang.reflect.Constructor;
import java.lang.reflect.Field;
import java.lang.reflect.Method;
import java.lang.reflect.Modifier;
import java.nio.file.Files;
import java.nio.file.Path;
import java.util.ArrayList;
import java.util.Arrays;
import java.util.List;
import java.util.Set;
import java.util.TreeSet;
import java.util.regex.Matcher;
import java.util.regex.Pattern;

/** The rules of LANGUAGE.md that can be seen in the source, by reflection, or by what calls make. */
public final class RulesTest {
    private static final Check CHECK = new Check("RulesTest");
    private static final Path SOURCE = Path.of("src/main/java/ContractDesk.java");
    private static final Set<String> FACE = new TreeSet<>(Arrays.asList(
        "int feed(int)", "int contract()", "int fault()", "int answer(int,boolean)", "int forget(int)",
        "int strike(int,boolean)", "int drift(int)", "int undo()", "int answerOf(int)", "int told(int)",
        "int wrong(int)", "int clause(int,int)", "int part(int,int,int)", "int number(int,int)",
        "int hangs(int,int)", "int term(int,int)", "int by(int,int)", "int sign(int)", "int keep(int)",
        "int goBack(int)"));
    private static final Set<String> CONSTANTS =
        new TreeSet<>(Arrays.asList("NONE", "UNKNOWN", "OUTSIDE", "NOT", "FULL"));

    public static void main(String[] args) throws IOException {
        String source = Files.readString(SOURCE);
        face();
        classes();
        forbiddenWords(withoutComments(source));
        methodLengths(source);
        callsMakeNothing();
        CHECK.end();
    }

    private static String signature(Method method) {
        List<String> types = new ArrayList<>();
        for (Class<?> type : method.getParameterTypes()) {
            types.add(type.getSimpleName());
        }
        return method.getReturnType().getSimpleName() + " " + method.getName() + "(" + String.join(",", types) + ")";
    }

    private static void face() {
        int modifiers = ContractDesk.class.getModifiers();
        CHECK.holds("rule 1: public and final", Modifier.isPublic(modifiers) && Modifier.isFinal(modifiers));
        Set<String> methods = new TreeSet<>();
        for (Method method : ContractDesk.class.getDeclaredMethods()) {
            if (!Modifier.isPrivate(method.getModifiers())) {
                CHECK.holds("rule 1: " + method + " is public", Modifier.isPublic(method.getModifiers()));
                methods.add(signature(method));
            }
        }
        CHECK.holds("rule 1: the methods are " + methods, methods.equals(FACE));
        Set<String> fields = new TreeSet<>();
        for (Field field : ContractDesk.class.getDeclaredFields()) {
            if (!Modifier.isPrivate(field.getModifiers())) {
                fields.add(field.getName());
            }
        }
        CHECK.holds("rule 1: the constants are " + fields, fields.equals(CONSTANTS));
        Constructor<?>[] constructors = ContractDesk.class.getDeclaredConstructors();
        CHECK.holds("rule 1: one public constructor",
            constructors.length == 1 && Modifier.isPublic(constructors[0].getModifiers()));
    }

    private static void classes() {
        Set<String> faceNames = new TreeSet<>();
        FACE.forEach(s -> faceNames.add(s.substring(4, s.indexOf('('))));
        Class<?>[] inside = ContractDesk.class.getDeclaredClasses();
        CHECK.holds("rule 11: some twelve classes", inside.length + 1 <= 12);
        List<Class<?>> all = new ArrayList<>(Arrays.asList(inside));
        for (Class<?> one : inside) {
            CHECK.holds("rule 2: " + one + " is static", Modifier.isStatic(one.getModifiers()));
            CHECK.holds("rule 1: " + one + " is not public", !Modifier.isPublic(one.getModifiers()));
            for (Method method : one.getDeclaredMethods()) {
                CHECK.holds("rule 1: " + method + " bears no face's name", !faceNames.contains(method.getName()));
            }
        }
        all.add(ContractDesk.class);
        for (Class<?> one : all) {
            int fields = 0;
            for (Field field : one.getDeclaredFields()) {
                boolean isStatic = Modifier.isStatic(field.getModifiers());
                fields += isStatic ? 0 : 1;
                CHECK.holds("rule 5: " + field + " is final", !isStatic || Modifier.isFinal(field.getModifiers()));
            }
            CHECK.holds("rule 11: " + one + " has some twenty fields", fields <= 20);
            for (Method method : one.getDeclaredMethods()) {
                CHECK.holds("rule 11: " + method + " takes seven", method.getParameterCount() <= 7);
            }
        }
    }

    private static String withoutComments(String source) {
        return source.replaceAll("(?s)/\\*.*?\\*/", " ").replaceAll("//[^\n]*", " ");
    }

    private static void forbiddenWords(String code) {
        String[] words = {"throw", "throws", "try", "catch", "finally", "synchronized", "assert", "import", "package",
            "native", "volatile", "transient", "double", "float", "Object", "Thread", "equals", "hashCode", "toString",
            "instanceof", "protected", "Exception"};
        for (String word : words) {
            CHECK.holds("no '" + word + "'", !Pattern.compile("\\b" + word + "\\b").matcher(code).find());
        }
        CHECK.holds("rule 2: no lambda, no method reference", !code.contains("->") && !code.contains("::"));
        Matcher dots = Pattern.compile("\\b(System|Integer|Long|Math|Arrays)\\.(\\w+)").matcher(code);
        Set<String> allowed = Set.of("System.arraycopy", "Integer.bitCount", "Long.bitCount");
        while (dots.find()) {
            CHECK.holds("rule 4: " + dots.group(), allowed.contains(dots.group()));
        }
        for (int i = 0; i < code.length(); i++) {
            CHECK.holds("rule 4: signs are 1 to 127", code.charAt(i) >= 1 && code.charAt(i) <= 127);
        }
    }

    private static void methodLengths(String source) {
        String[] lines = source.split("\n");
        int begin = -1;
        String end = "";
        for (int i = 0; i < lines.length; i++) {
            Matcher head = Pattern.compile("^( {4}| {8})\\S.*\\) \\{$").matcher(lines[i]);
            if (begin < 0 && head.find()) {
                begin = i;
                end = head.group(1) + "}";
            } else if (begin >= 0 && lines[i].equals(end)) {
                CHECK.holds("rule 11: " + lines[begin].trim() + " is short", i - begin + 1 <= 60);
                begin = -1;
            }
        }
        CHECK.holds("every method ends", begin < 0);
    }

    /** Rows are made in constructors: no call makes an object, so the room holds however many calls there are. */
    private static void callsMakeNothing() {
        com.sun.management.ThreadMXBean bean = (com.sun.management.ThreadMXBean) ManagementFactory.getThreadMXBean();
        ContractDesk desk = new ContractDesk();
        useAll(desk, 20);
        long before = bean.getThreadAllocatedBytes(Thread.currentThread().getId());
        useAll(desk, 400);
        long made = bean.getThreadAllocatedBytes(Thread.currentThread().getId()) - before;
        CHECK.holds("rule 12: calls made " + made + " bytes", made < 4096);
    }

    private static void useAll(ContractDesk desk, int rounds) {
        for (int round = 0; round < rounds; round++) {
            Check.feed(desk, "c+0(d0u1r2)c*(u0c-1(d1r0r1))c(r1u1)");
            desk.contract();
            desk.drift(1 + round);
            desk.strike(round % 3, true);
            desk.keep(0);
            desk.answer(round % 6, round % 2 == 0);
            desk.forget(round % 6);
            desk.undo();
            desk.goBack(0);
            for (int i = 0; i <= 15; i++) {
                desk.told(i);
                desk.wrong(i);
                desk.clause(i % 4, i);
                desk.hangs(i % 4, i / 4);
                desk.term(i % 8, i / 4);
                desk.by(i * 4, i % 2);
                desk.number(i % 4, i / 4);
                desk.part(i % 4, i / 4, i % 2);
                desk.sign(i);
                desk.answerOf(i);
            }
            desk.fault();
        }
    }
}
