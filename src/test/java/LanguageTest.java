import com.sun.management.ThreadMXBean;
import java.lang.management.ManagementFactory;
import java.lang.reflect.Field;
import java.lang.reflect.Method;
import java.lang.reflect.Modifier;
import java.nio.file.Files;
import java.nio.file.Path;
import java.util.Collections;
import java.util.HashSet;
import java.util.IdentityHashMap;
import java.util.List;
import java.util.Set;

/** Those rules of LANGUAGE.md that can be seen from outside, and the room that an object takes. */
public final class LanguageTest {
    /** Words that the rules leave no room for in this class, which throws and catches nothing. */
    private static final String[] FORBIDDEN = {
        "package ", "catch", "throw", "try", "finally", "->", "::", "synchronized", "assert", "Exact(", "instanceof",
        "Double.", "Float.", "System.nano", "System.current", "Random", "hashCode", "equals(", "while",
    };

    private static int wrong = 0;

    private static void check(boolean holds, String fault) {
        if (!holds) {
            wrong++;
            System.out.println(fault);
        }
    }

    public static void main(String[] args) throws Exception {
        Set<String> names = new HashSet<>();
        for (Method method : DialogueGames.class.getDeclaredMethods()) if (Modifier.isPublic(method.getModifiers())) names.add(method.getName());
        Class<?>[] inside = DialogueGames.class.getDeclaredClasses();
        check(inside.length < 12, "too many classes: " + inside.length);
        checkMembers(DialogueGames.class, names);
        for (Class<?> type : inside) {
            check(Modifier.isStatic(type.getModifiers()) && !Modifier.isPublic(type.getModifiers()), type + " is public or not static");
            checkMembers(type, names);
        }
        checkSource();
        checkRoom();
        checkMaking();
        System.out.println(wrong == 0 ? "the rules that can be seen are kept" : wrong + " faults");
        if (wrong != 0) System.exit(1);
    }

    private static void checkMembers(Class<?> type, Set<String> names) {
        int fields = 0;
        for (Field field : type.getDeclaredFields()) {
            if (Modifier.isStatic(field.getModifiers())) check(Modifier.isFinal(field.getModifiers()), field + " is static and not final");
            else fields++;
        }
        check(fields <= 20, type + " has too many fields");
        for (Method method : type.getDeclaredMethods()) {
            check(method.getParameterCount() <= 7, method + " has too many parameters");
            boolean face = type == DialogueGames.class && Modifier.isPublic(method.getModifiers());
            check(face || !names.contains(method.getName()), method + " bears the name of a public one");
        }
    }

    private static void checkSource() throws Exception {
        Path path = Path.of(System.getProperty("dialogue.source", "src/main/java/DialogueGames.java"));
        List<String> lines = Files.readAllLines(path);
        for (int k = 0; k < lines.size(); k++) {
            String line = lines.get(k).trim();
            if (line.startsWith("//") || line.startsWith("*") || line.startsWith("/*")) continue;
            for (String word : FORBIDDEN) check(!line.contains(word), "line " + (k + 1) + " has " + word);
            check(!line.startsWith("import ") || line.equals("import java.util.Arrays;"), "line " + (k + 1) + " imports something");
        }
        checkLengths(lines);
    }

    /** Methods stay short: a method ends at the first brace that stands as far left as its head. */
    private static void checkLengths(List<String> lines) {
        int head = -1;
        for (int k = 0; k < lines.size(); k++) {
            String line = lines.get(k);
            String body = line.stripLeading();
            int left = line.length() - body.length();
            boolean opens = (left == 4 || left == 8) && body.contains("(") && body.endsWith(") {") && !body.matches("(if|for|while|switch|\\}).*");
            if (head < 0 && opens) head = k;
            if (head >= 0 && body.equals("}") && left == lines.get(head).length() - lines.get(head).stripLeading().length()) {
                check(k - head < 60, "the method of line " + (head + 1) + " has " + (k - head + 1) + " lines");
                head = -1;
            }
        }
    }

    /** Calls make next to nothing, for all that a run makes is counted (one object is made before, as a warm-up). */
    private static void checkMaking() {
        ThreadMXBean threads = (ThreadMXBean) ManagementFactory.getThreadMXBean();
        dearCalls(new DialogueGames());
        DialogueGames x = new DialogueGames();
        long before = threads.getCurrentThreadAllocatedBytes();
        dearCalls(x);
        long made = threads.getCurrentThreadAllocatedBytes() - before;
        check(made < 100_000, "some 500 dear calls made " + made + " bytes");
    }

    private static void dearCalls(DialogueGames x) {
        String text = "(((p&r)&(~p))&((q|q)&(s|q)))>(~(~(~p)))";
        for (int k = 0; k < text.length(); k++) x.append(text.charAt(k), 1);
        int formula = x.parse();
        for (int slot = 0; slot < 4; slot++) x.allocate(slot, slot, 40);
        for (int k = 0; k < 42; k++) {
            x.rank(formula, k % 2);
            x.positionCount(formula, k % 2);
            x.manners(formula);
            x.begin(formula, k % 2, 0);
            x.play(k % 3, 0);
            x.bestMove();
            x.hardestReply(0);
            x.replay(0, formula, k % 2);
            x.allocate(1 + k % 3, k % 4, 40);
            x.copyElements(0, 0, 0, 1, 39);
            x.parse();
        }
    }

    /** What an object holds must stay small, for all objects of a run live in one room. */
    private static void checkRoom() throws Exception {
        DialogueGames x = new DialogueGames();
        long fresh = roomOf(x, identities());
        check(fresh < 8_000, "a new object holds " + fresh + " fields and elements");
        for (char sign : "(((p&r)&(~p))&((q|q)&(s|q)))>(~(~(~p)))".toCharArray()) x.append(sign, 1);
        int formula = x.parse();
        x.begin(formula, 1, 0);
        for (int k = 0; k < 64; k++) {
            x.manners(formula);
            x.bestMove();
            x.allocate(k % 4, k % 4, 40);
            x.append(126, 40);
            x.parse();
        }
        long used = roomOf(x, identities());
        check(used < 16_000, "a used object holds " + used + " fields and elements");
    }

    private static Set<Object> identities() {
        return Collections.newSetFromMap(new IdentityHashMap<>());
    }

    private static long roomOf(Object object, Set<Object> met) throws Exception {
        if (object == null || !met.add(object)) return 0;
        Class<?> type = object.getClass();
        long room = 0;
        if (type.isArray()) {
            room = java.lang.reflect.Array.getLength(object);
            if (object instanceof Object[] parts) for (Object part : parts) room += roomOf(part, met);
            return room;
        }
        for (Field field : type.getDeclaredFields()) {
            if (Modifier.isStatic(field.getModifiers())) continue;
            field.setAccessible(true);
            room += 1 + (field.getType().isPrimitive() ? 0 : roomOf(field.get(object), met));
        }
        return room;
    }
}
