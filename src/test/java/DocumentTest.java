import java.lang.reflect.Field;
import java.lang.reflect.Method;
import java.lang.reflect.Modifier;
import java.nio.file.Files;
import java.nio.file.Path;
import java.util.ArrayList;
import java.util.List;
import java.util.Set;
import java.util.TreeSet;
import java.util.regex.Matcher;
import java.util.regex.Pattern;

/**
 * What can be read from the document itself: its public face, the signature of each promise, the
 * values of the constants, and the examples.
 */
public final class DocumentTest {
    private static final String PREFIX = "    public ";
    private static final String CONSTANT = "    public static final ";

    private static int wrong = 0;

    private static void check(boolean holds, String fault) {
        if (!holds) {
            wrong++;
            System.out.println(fault);
        }
    }

    public static void main(String[] args) throws Exception {
        String document = Files.readString(Path.of(System.getProperty("dialogue.document", "../shared/DOC.md")));
        String source = Files.readString(Path.of(System.getProperty("dialogue.source", "src/main/java/DialogueGames.java")));
        List<String> face = faceIn(document);
        checkDeclarations(face, source);
        checkClass(face);
        checkConstantList(document);
        checkPromises(document, face);
        checkExamples(document);
        System.out.println(wrong == 0 ? "the document's face and examples are as due" : wrong + " faults");
        if (wrong != 0) System.exit(1);
    }

    /** The lines between the braces of the class that the document shows. */
    private static List<String> faceIn(String document) {
        String block = between(document, "```java\n", "```");
        check(block.startsWith("public final class DialogueGames {\n"), "the document's face begins in another way");
        List<String> face = new ArrayList<>();
        for (String line : block.split("\n")) if (line.startsWith(PREFIX)) face.add(line);
        check(face.size() == 13 + 1 + 34, "the document's face has " + face.size() + " members");
        return face;
    }

    private static String between(String text, String start, String end) {
        int from = text.indexOf(start) + start.length();
        return text.substring(from, text.indexOf(end, from));
    }

    /** The source has each line as it stands there, with the same names of the parameters too. */
    private static void checkDeclarations(List<String> face, String source) {
        check(source.contains("\npublic final class DialogueGames {\n"), "the class is not declared as due");
        Set<String> declared = new TreeSet<>();
        for (String line : source.split("\n")) {
            if (line.startsWith(CONSTANT)) declared.add(line);
            else if (line.startsWith(PREFIX)) declared.add(line.replace(" {", ";"));
        }
        check(declared.equals(new TreeSet<>(face)), "the declarations are " + declared);
    }

    /** The compiled class has what the face shows, and nothing else that is not private. */
    private static void checkClass(List<String> face) throws Exception {
        Set<String> due = new TreeSet<>();
        for (String line : face) due.add(line.trim().replace("Long.MIN_VALUE", "" + Long.MIN_VALUE).replaceAll("(int|long) \\w+([,)])", "$1$2"));
        Class<?> type = DialogueGames.class;
        check(type.getModifiers() == (Modifier.PUBLIC | Modifier.FINAL), "the class is not public and final alone");
        check(type.getSuperclass() == Object.class && type.getInterfaces().length == 0, "the class is of another kind");
        Set<String> found = new TreeSet<>();
        for (var constructor : type.getDeclaredConstructors()) found.add(Modifier.toString(constructor.getModifiers()) + " DialogueGames" + listed(constructor.getParameterTypes()));
        for (Method method : type.getDeclaredMethods()) {
            if (Modifier.isPrivate(method.getModifiers())) continue;
            found.add(Modifier.toString(method.getModifiers()) + " " + method.getReturnType() + " " + method.getName() + listed(method.getParameterTypes()));
            check(method.getExceptionTypes().length == 0, method + " declares an exception");
        }
        for (Field field : type.getDeclaredFields()) {
            if (Modifier.isPrivate(field.getModifiers())) continue;
            String value = Modifier.isStatic(field.getModifiers()) ? "" + field.get(null) : "?";
            found.add(Modifier.toString(field.getModifiers()) + " " + field.getType() + " " + field.getName() + " = " + value + ";");
        }
        check(found.equals(due), "the members are " + found);
    }

    private static String listed(Class<?>[] parameters) {
        StringBuilder text = new StringBuilder("(");
        for (Class<?> parameter : parameters) text.append(text.length() == 1 ? "" : ", ").append(parameter);
        return text + ");";
    }

    private static void checkConstantList(String document) throws Exception {
        Matcher matcher = Pattern.compile("(?m)^- `([A-Z_]+) = (\\S+)`: ").matcher(document);
        int met = 0;
        while (matcher.find()) {
            met++;
            long value = matcher.group(2).equals("Long.MIN_VALUE") ? Long.MIN_VALUE : Long.parseLong(matcher.group(2));
            check(DialogueGames.class.getField(matcher.group(1)).getLong(null) == value, matcher.group() + " is not so");
        }
        check(met == 13, "the document lists " + met + " constants");
    }

    private static void checkPromises(String document, List<String> face) {
        Matcher matcher = Pattern.compile("(?m)^## Promise (\\d+): .*\n\n`(.*)`$").matcher(document);
        int met = 0;
        while (matcher.find()) {
            met++;
            check(Integer.parseInt(matcher.group(1)) == met, "promise " + matcher.group(1) + " stands in the place of " + met);
            check(face.contains(PREFIX + matcher.group(2) + ";"), "the face has no " + matcher.group(2));
        }
        check(met == 35, "the document has " + met + " promises");
    }

    private static void checkExamples(String document) throws Exception {
        String chapter = between(document, "\nExamples: ", "\nDetails. ");
        String[] examples = chapter.split("\n- ");
        check(examples.length == 4, "the document has " + (examples.length - 1) + " examples");
        int calls = 0;
        for (int k = 1; k < examples.length; k++) calls += runExample(k, examples[k].replaceAll("\\s+", " "));
        check(calls == 13 + 10 + 9, "the examples have " + calls + " calls");
    }

    private static int runExample(int number, String text) throws Exception {
        DialogueGames games = new DialogueGames();
        Matcher matcher = Pattern.compile("(\\w+)\\(([^)]*)\\): (-?\\d+)").matcher(text);
        int calls = 0;
        while (matcher.find()) {
            calls++;
            long got = call(games, matcher.group(1), matcher.group(2));
            check(got == Long.parseLong(matcher.group(3)), "example " + number + ", call " + calls + ": " + matcher.group() + " is due, but it answered " + got);
        }
        check(calls == text.split("; ").length, "example " + number + " has a call that was not read");
        return calls;
    }

    private static long call(DialogueGames games, String name, String list) throws Exception {
        String[] words = list.isEmpty() ? new String[0] : list.split(", ");
        Class<?>[] types = new Class<?>[words.length];
        Object[] values = new Object[words.length];
        for (int k = 0; k < words.length; k++) {
            types[k] = int.class;
            values[k] = Integer.parseInt(words[k]);
        }
        return ((Number) DialogueGames.class.getMethod(name, types).invoke(games, values)).longValue();
    }
}
