import java.io.IOException;
import java.lang.reflect.Constructor;
import java.lang.reflect.Field;
import java.lang.reflect.Method;
import java.lang.reflect.Modifier;
import java.nio.file.Files;
import java.nio.file.Path;
import java.util.List;
import java.util.TreeSet;

/** The face of the class, and those rules of ../shared/LANGUAGE.md that its text shows. */
public final class LanguageTests {
    private static final List<String> FACE = List.of("drive(int)int", "token()int", "lose()int", "best()int",
            "greedy()int", "again()int", "set(int,int)int", "append(int)int", "clear()int", "fault(int)int",
            "road()int", "race()int", "why(int)int", "mile(int,int)int", "wagon(int,int)int", "ends(int)int",
            "worth(int)int", "worthOf(int)int", "bestTurn()int", "count(int)int", "speed()double",
            "ended(int,int,int)int", "undo()int", "save()int", "restore()int");
    private static final List<String> CONSTANTS = List.of("INVALID_ARGUMENT", "NOT_POSSIBLE", "LIMIT_REACHED",
            "NOT_FOUND", "PACE", "STOP");
    private static final List<String> NOT_ALLOWED = List.of("import ", "package ", "throw ", "catch", "finally",
            "->", "::", "static {", "synchronized", "assert ", "instanceof", "java.", "System.", "Exact");

    private static int wrong = 0;

    private static void must(boolean holds, String what) {
        if (!holds) {
            wrong++;
            System.out.println("not so: " + what);
        }
    }

    private static String signature(Method m) {
        StringBuilder text = new StringBuilder(m.getName()).append('(');
        for (int i = 0; i < m.getParameterCount(); i++) {
            text.append(i == 0 ? "" : ",").append(m.getParameterTypes()[i].getName());
        }
        return text.append(')').append(m.getReturnType().getName()).toString();
    }

    private static void face() {
        Class<?> program = WagonLeaps.class;
        must(Modifier.isFinal(program.getModifiers()) && Modifier.isPublic(program.getModifiers()), "public and final");
        TreeSet<String> names = new TreeSet<>();
        TreeSet<String> found = new TreeSet<>();
        for (Method m : program.getDeclaredMethods()) {
            if (!Modifier.isPrivate(m.getModifiers())) {
                must(Modifier.isPublic(m.getModifiers()) && !Modifier.isStatic(m.getModifiers()), signature(m));
                found.add(signature(m));
                names.add(m.getName());
            }
        }
        must(found.equals(new TreeSet<>(FACE)), "the methods of the face: " + found);
        for (Method m : program.getDeclaredMethods()) {
            must(!Modifier.isPrivate(m.getModifiers()) || !names.contains(m.getName()), "a name of its own: " + m);
        }
        TreeSet<String> fields = new TreeSet<>();
        for (Field f : program.getDeclaredFields()) {
            if (!Modifier.isPrivate(f.getModifiers())) {
                fields.add(f.getName());
            }
            must(!Modifier.isStatic(f.getModifiers()) || Modifier.isFinal(f.getModifiers()), "final: " + f);
        }
        must(fields.equals(new TreeSet<>(CONSTANTS)), "the constants of the face: " + fields);
        for (Constructor<?> c : program.getDeclaredConstructors()) {
            must(Modifier.isPublic(c.getModifiers()) && c.getParameterCount() == 0, "one constructor");
        }
        for (Class<?> inside : program.getDeclaredClasses()) {
            int modifiers = inside.getModifiers();
            must(Modifier.isPrivate(modifiers) && Modifier.isStatic(modifiers), "private and static: " + inside);
        }
    }

    private static void text() throws IOException {
        int number = 0;
        for (String line : Files.readAllLines(Path.of("src/main/java/WagonLeaps.java"))) {
            number++;
            String place = "line " + number + ": " + line;
            for (String part : NOT_ALLOWED) {
                must(!line.contains(part), place);
            }
            must(line.chars().allMatch(c -> c < 128), place);
            // Calls make nothing: all objects are made with the fields, or once in a history's constructor.
            must(!line.contains("new ") || line.contains("private final ")
                    || line.trim().equals("rows[i] = new Race();"), place);
        }
        must(number > 100, "the program's text");
    }

    public static void main(String[] args) throws IOException {
        face();
        text();
        System.out.println(wrong == 0 ? "the face and the text are as they must be" : wrong + " are not so");
        if (wrong != 0) {
            System.exit(1);
        }
    }
}
