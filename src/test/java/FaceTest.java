import java.io.IOException;
import java.lang.management.ManagementFactory;
import java.lang.reflect.Constructor;
import java.lang.reflect.Field;
import java.lang.reflect.Method;
import java.lang.reflect.Modifier;
import java.nio.file.Files;
import java.nio.file.Path;
import java.util.ArrayList;
import java.util.Arrays;
import java.util.HashSet;
import java.util.List;
import java.util.Random;
import java.util.Set;
import java.util.TreeSet;
import java.util.regex.Matcher;
import java.util.regex.Pattern;

/** The public face, the rules of LANGUAGE.md that can be seen from outside, the room, and that no call throws. */
public final class FaceTest {
    private static final Dues dues = new Dues("FaceTest");
    private static final String FACE = "active(int) add(int,int,int,int) alter(int,int,int,int,int) back() bears(int) clear() code(int,int)"
        + " copy(int,int,int,int,int) count(int) digest() error(int,int) errors() get(int,int,int) holds(int,int) live(int) loans()"
        + " lose(int) mend(int) next(int) put(int,int,int,int) reached() read(int) region(int) run(int,int,int) scope(int)"
        + " sheet(int,int,int) soft() witness(int,int) write(int)";

    public static void main(String[] args) throws Exception {
        face();
        source();
        room();
        anyCalls();
        dues.end();
    }

    private static void face() {
        Class<?> c = LoanPoints.class;
        dues.due("public and final", c.getModifiers(), Modifier.PUBLIC | Modifier.FINAL);
        Set<String> found = new TreeSet<>();
        Set<String> publicNames = new HashSet<>();
        for (Method m : c.getDeclaredMethods()) {
            if (Modifier.isPublic(m.getModifiers())) {
                List<String> types = new ArrayList<>();
                for (Class<?> type : m.getParameterTypes()) {
                    types.add(type.getName());
                }
                found.add(m.getName() + "(" + String.join(",", types) + ")");
                publicNames.add(m.getName());
                dues.due("answer of " + m.getName(), m.getReturnType() == (m.getName().equals("digest") ? long.class : int.class) ? 1 : 0, 1);
            } else {
                dues.due("private: " + m.getName(), m.getModifiers() & Modifier.PRIVATE, Modifier.PRIVATE);
            }
        }
        dues.due("methods: " + found, found.equals(new TreeSet<>(Arrays.asList(FACE.split(" ")))) ? 1 : 0, 1);
        Set<String> constants = new TreeSet<>();
        for (Field f : c.getDeclaredFields()) {
            if (!Modifier.isPrivate(f.getModifiers())) {
                constants.add(f.getName());
            }
        }
        dues.due("constants: " + constants, constants.equals(Set.of("NONE", "BAD", "NOT", "FULL")) ? 1 : 0, 1);
        dues.due("constructors", c.getDeclaredConstructors().length, 1);
        for (Constructor<?> made : c.getDeclaredConstructors()) {
            dues.due("constructor", Modifier.isPublic(made.getModifiers()) && made.getParameterCount() == 0 ? 1 : 0, 1);
        }
        for (Class<?> inside : c.getDeclaredClasses()) {
            dues.due("static: " + inside.getName(), inside.getModifiers() & Modifier.STATIC, Modifier.STATIC);
            dues.due("fields of " + inside.getName(), inside.getDeclaredFields().length <= 20 ? 1 : 0, 1);
            for (Method m : inside.getDeclaredMethods()) {
                dues.due("not a public name: " + m.getName(), publicNames.contains(m.getName()) ? 1 : 0, 0);
            }
        }
        dues.due("classes inside", c.getDeclaredClasses().length <= 11 ? 1 : 0, 1);
    }

    private static void source() throws IOException {
        String text = Files.readString(Path.of("src/main/java/LoanPoints.java"));
        String code = text.replaceAll("(?s)/\\*.*?\\*/", "").replaceAll("//[^\n]*", "");
        String[] words = {"throw", "throws", "try", "catch", "finally", "synchronized", "assert", "import", "package", "protected",
            "abstract", "volatile", "transient", "native", "Object", "Thread", "Random", "hashCode", "toString", "equals"};
        for (String word : words) {
            dues.due("the word " + word, Pattern.compile("\\b" + word + "\\b").matcher(code).find() ? 1 : 0, 0);
        }
        for (String sign : new String[] {"->", "::", "Exact(", "@", "Integer.M"}) {
            dues.due("the sign " + sign, code.contains(sign) ? 1 : 0, 0);
        }
        Matcher m = Pattern.compile("\\b(System|Integer|Long|Math|Arrays)\\.(\\w+)").matcher(code);
        while (m.find()) {
            boolean listed = Set.of("System.arraycopy", "Integer.bitCount", "Math.min").contains(m.group());
            dues.due("library: " + m.group(), listed ? 1 : 0, 1);
        }
        shortMethods(code);
    }

    private static void shortMethods(String code) {
        int started = -1;
        int depth = 0;
        int methodDepth = -1;
        String[] lines = code.split("\n");
        for (int i = 0; i < lines.length; i++) {
            String line = lines[i];
            boolean head = line.matches("\\s+(public |private |static |final )*[\\w\\[\\]]+( \\w+)?\\([^;]*\\) \\{")
                && !line.matches("\\s+(\\} else )?(if|for|while|switch).*");
            if (head && methodDepth < 0) {
                started = i;
                methodDepth = depth;
                dues.due("parameters: " + line.trim(), line.chars().filter(ch -> ch == ',').count() < 7 ? 1 : 0, 1);
            }
            depth += line.chars().filter(ch -> ch == '{').count() - line.chars().filter(ch -> ch == '}').count();
            if (methodDepth >= 0 && depth == methodDepth) {
                dues.due("lines of: " + lines[started].trim(), i - started <= 60 ? 1 : 0, 1);
                methodDepth = -1;
            }
        }
        dues.due("all braces close", depth, 0);
    }

    /** The dearest calls, 512 of them, must leave the room (600,000 objects, 7.3 million elements) all but empty. */
    private static void room() {
        java.lang.management.ThreadMXBean bean = ManagementFactory.getThreadMXBean();
        if (!(bean instanceof com.sun.management.ThreadMXBean)) {
            return;
        }
        com.sun.management.ThreadMXBean threads = (com.sun.management.ThreadMXBean) bean;
        long id = Thread.currentThread().getId();
        long[] bytes = new long[2];
        for (int turn = 0; turn < 2; turn++) {
            long before = threads.getThreadAllocatedBytes(id);
            LoanPoints x = new LoanPoints();
            for (int p = 0; p < 24; p++) {
                x.add(p % 3 == 2 ? 7 : 3 + p % 3, 1 + p % 5, 6 * (p % 4) + p % 6, (p * 7) % 24);
            }
            for (int call = 0; call < 240; call++) {
                x.alter(call % 24, 3 + call % 4, call % 8, call % 48, 0);
                x.digest();
            }
            bytes[turn] = threads.getThreadAllocatedBytes(id) - before;
        }
        dues.due("bytes of a long life: " + bytes[1], bytes[1] < 200_000 ? 1 : 0, 1);
    }

    private static int any(Random random) {
        switch (random.nextInt(8)) {
            case 0: return random.nextInt();
            case 1: return random.nextBoolean() ? Integer.MIN_VALUE : Integer.MAX_VALUE;
            case 2: return random.nextInt(70) - 5;
            default: return random.nextInt(8);
        }
    }

    /** Any calls with any numbers: none throws, and a refused one changes nothing. */
    private static void anyCalls() throws Exception {
        Random random = new Random(512);
        List<Method> calls = new ArrayList<>();
        for (Method m : LoanPoints.class.getDeclaredMethods()) {
            if (Modifier.isPublic(m.getModifiers())) {
                calls.add(m);
            }
        }
        calls.sort((a, b) -> a.getName().compareTo(b.getName()));
        for (int round = 0; round < 300; round++) {
            LoanPoints x = new LoanPoints();
            for (int call = 0; call < 512; call++) {
                Method m = calls.get(random.nextInt(calls.size()));
                Object[] numbers = new Object[m.getParameterCount()];
                for (int i = 0; i < numbers.length; i++) {
                    numbers[i] = any(random);
                }
                if (m.getName().equals("clear") && random.nextInt(20) != 0) {
                    continue;
                }
                boolean looks = call % 16 == 0;
                long before = looks ? x.digest() : 0;
                long answer = ((Number) m.invoke(x, numbers)).longValue();
                boolean changes = Set.of("add", "alter", "back", "clear", "read").contains(m.getName()) && answer >= 0;
                if (looks && !changes) {
                    dues.due(m.getName() + " changes no statement", x.digest(), before);
                }
            }
        }
    }
}
