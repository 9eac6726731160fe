import java.lang.reflect.Field;
import java.lang.reflect.Method;
import java.lang.reflect.Modifier;
import java.nio.file.Files;
import java.nio.file.Path;
import java.util.Arrays;
import java.util.HashSet;
import java.util.List;
import java.util.Set;
import java.util.TreeSet;

/** The public face of the document, and those rules of LANGUAGE.md that can be seen from outside. */
public final class FaceTest {
    private static final String[] METHODS = {
        "int reset()", "int formulaCount()", "int append(int,int)", "int clearInput()", "int parse()",
        "int negate(int)", "int combine(int,int,int)", "int kind(int)", "int part(int,int)", "int size(int)",
        "long subformulas(int)", "int truthTable(int)", "int isEquivalent(int,int)", "int transform(int)",
        "int rank(int,int)", "int positionCount(int,int)", "int manners(int)", "int begin(int,int,int)",
        "long claims()", "long defences()", "int moveCount()", "int move(int,int)", "int play(int,int)",
        "int takeBack()", "int positionRank()", "int bestMove()", "int hardestReply(int)",
        "int allocate(int,int,int)", "int release(int)", "int putElement(int,int,long)", "long element(int,int)",
        "int compute(int,int,int,int)", "int copyElements(int,int,int,int,int)", "int replay(int,int,int)",
    };

    private static final String[] CONSTANTS = {
        "int BAD_ARGUMENT = -1", "int NO_SUCH_FORMULA = -2", "int FULL = -3", "int BAD_INPUT = -4", "int NONE = -5",
        "int LIMIT_EXCEEDED = -6", "int NOT_PLAYING = -7", "int EMPTY_SLOT = -11", "int WRONG_TYPE = -12",
        "int INDEX_OUT_OF_RANGE = -13", "int NEGATIVE_SIZE = -14", "int WON = 1000",
        "long NO_VALUE = -9223372036854775808",
    };

    /** Words that the rules leave no room for in this class, which throws and catches nothing. */
    private static final String[] FORBIDDEN = {
        "package ", "catch", "throw", "try", "finally", "->", "::", "synchronized", "assert", "Exact(", "instanceof",
        "Double.", "Float.", "System.nano", "System.current", "Random", "hashCode", "equals(", "while",
    };

    private static int wrong = 0;

    private static void check(boolean holds, String fault) {
        if (!holds) {
            wrong++;
            System.out.println(fault);
        }
    }

    public static void main(String[] args) throws Exception {
        checkFace();
        Set<String> names = new HashSet<>();
        for (Method method : DialogueGames.class.getDeclaredMethods()) if (Modifier.isPublic(method.getModifiers())) names.add(method.getName());
        Class<?>[] inside = DialogueGames.class.getDeclaredClasses();
        check(inside.length < 12, "too many classes: " + inside.length);
        checkMembers(DialogueGames.class, names);
        for (Class<?> type : inside) {
            check(Modifier.isStatic(type.getModifiers()) && !Modifier.isPublic(type.getModifiers()), type + " is public or not static");
            checkMembers(type, names);
        }
        checkSource();
        checkRoom();
        System.out.println(wrong == 0 ? "the face is as due" : wrong + " faults of the face");
        if (wrong != 0) System.exit(1);
    }

    private static void checkFace() throws Exception {
        Class<?> type = DialogueGames.class;
        check(Modifier.isPublic(type.getModifiers()) && Modifier.isFinal(type.getModifiers()), "the class is not public and final");
        check(type.getDeclaredConstructors().length == 1 && type.getConstructors().length == 1
            && type.getConstructors()[0].getParameterCount() == 0, "the constructor is not as due");
        Set<String> methods = new TreeSet<>();
        for (Method method : type.getDeclaredMethods()) {
            if (Modifier.isPrivate(method.getModifiers())) continue;
            StringBuilder text = new StringBuilder(method.getReturnType() + " " + method.getName() + "(");
            for (Class<?> parameter : method.getParameterTypes()) text.append(text.charAt(text.length() - 1) == '(' ? "" : ",").append(parameter);
            methods.add(text + ")");
            check(Modifier.isPublic(method.getModifiers()) && !Modifier.isStatic(method.getModifiers()), method + " is not a public method");
        }
        check(methods.equals(new TreeSet<>(Arrays.asList(METHODS))), "the methods are " + methods);
        Set<String> constants = new TreeSet<>();
        for (Field field : type.getDeclaredFields()) {
            if (Modifier.isPrivate(field.getModifiers())) continue;
            boolean constant = Modifier.isPublic(field.getModifiers()) && Modifier.isStatic(field.getModifiers()) && Modifier.isFinal(field.getModifiers());
            check(constant, field + " is no public constant");
            if (constant) constants.add(field.getType() + " " + field.getName() + " = " + field.get(null));
        }
        check(constants.equals(new TreeSet<>(Arrays.asList(CONSTANTS))), "the constants are " + constants);
    }

    private static void checkMembers(Class<?> type, Set<String> names) {
        int fields = 0;
        for (Field field : type.getDeclaredFields()) {
            if (Modifier.isStatic(field.getModifiers())) check(Modifier.isFinal(field.getModifiers()), field + " is static and not final");
            else fields++;
        }
        check(fields <= 20, type + " has too many fields");
        for (Method method : type.getDeclaredMethods()) {
            check(method.getParameterCount() <= 7, method + " has too many parameters");
            boolean face = type == DialogueGames.class && Modifier.isPublic(method.getModifiers());
            check(face || !names.contains(method.getName()), method + " bears the name of a public one");
        }
    }

    private static void checkSource() throws Exception {
        Path path = Path.of(System.getProperty("dialogue.source", "src/main/java/DialogueGames.java"));
        List<String> lines = Files.readAllLines(path);
        for (int k = 0; k < lines.size(); k++) {
            String line = lines.get(k).trim();
            if (line.startsWith("//") || line.startsWith("*") || line.startsWith("/*")) continue;
            for (String word : FORBIDDEN) check(!line.contains(word), "line " + (k + 1) + " has " + word);
            check(!line.startsWith("import ") || line.equals("import java.util.Arrays;"), "line " + (k + 1) + " imports something");
        }
    }

    /** What an object holds must stay small, for all objects of a run live in one room. */
    private static void checkRoom() throws Exception {
        DialogueGames x = new DialogueGames();
        long fresh = roomOf(x, new HashSet<>());
        check(fresh < 8_000, "a new object holds " + fresh + " fields and elements");
        for (char sign : "(((p&r)&(~p))&((q|q)&(s|q)))>(~(~(~p)))".toCharArray()) x.append(sign, 1);
        int formula = x.parse();
        x.begin(formula, 1, 0);
        for (int k = 0; k < 64; k++) {
            x.manners(formula);
            x.bestMove();
            x.allocate(k % 4, k % 4, 40);
            x.append(126, 40);
            x.parse();
        }
        long used = roomOf(x, new HashSet<>());
        check(used < 16_000, "a used object holds " + used + " fields and elements");
    }

    private static long roomOf(Object object, Set<Integer> met) throws Exception {
        if (object == null || !met.add(System.identityHashCode(object))) return 0;
        Class<?> type = object.getClass();
        long room = 0;
        if (type.isArray()) {
            room = java.lang.reflect.Array.getLength(object);
            if (object instanceof Object[] parts) for (Object part : parts) room += roomOf(part, met);
            return room;
        }
        for (Field field : type.getDeclaredFields()) {
            if (Modifier.isStatic(field.getModifiers())) continue;
            field.setAccessible(true);
            room += 1 + (field.getType().isPrimitive() ? 0 : roomOf(field.get(object), met));
        }
        return room;
    }
}
