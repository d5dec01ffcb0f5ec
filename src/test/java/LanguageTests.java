import java.io.IOException;
import java.lang.reflect.Array;
import java.lang.reflect.Constructor;
import java.lang.reflect.Field;
import java.lang.reflect.Method;
import java.lang.reflect.Modifier;
import java.nio.file.Files;
import java.nio.file.Path;
import java.util.Collections;
import java.util.IdentityHashMap;
import java.util.List;
import java.util.Set;
import java.util.TreeSet;
import java.util.regex.Matcher;
import java.util.regex.Pattern;

/** The face of the class, those rules of ../shared/LANGUAGE.md that its text shows, and the room that it takes. */
public final class LanguageTests {
    private static final List<String> FACE = List.of("drive(int)int", "token()int", "lose()int", "best()int",
            "greedy()int", "again()int", "set(int,int)int", "append(int)int", "clear()int", "fault(int)int",
            "road()int", "race()int", "why(int)int", "mile(int,int)int", "wagon(int,int)int", "ends(int)int",
            "worth(int)int", "worthOf(int)int", "bestTurn()int", "count(int)int", "speed()double",
            "ended(int,int,int)int", "undo()int", "save()int", "restore()int");
    private static final List<String> CONSTANTS = List.of("INVALID_ARGUMENT", "NOT_POSSIBLE", "LIMIT_REACHED",
            "NOT_FOUND", "PACE", "STOP");
    private static final List<String> NOT_ALLOWED = List.of("import ", "package ", "throw ", "catch", "finally",
            "->", "::", "static {", "synchronized", "assert ", "instanceof", "java.", "System.", "Exact", "while",
            "equals", "hashCode", "toString", "NaN", "\" +", "+ \"", "(Object", "protected ");
    private static final Path PROGRAM = Path.of("src/main/java/WagonLeaps.java");
    /** A method begins four or eight columns from the left, and ends with a brace in the same column. */
    private static final Pattern METHOD = Pattern.compile("( {4}| {8})[a-zA-Z][\\w\\[\\] ]*\\([^;]*\\) \\{");
    private static final int LONGEST_METHOD = 60, MOST_PARAMETERS = 7, MOST_CLASSES = 12, MOST_FIELDS = 20;
    /** Of the room of 600,000 objects and 7.3 million elements one object takes less than a hundredth. */
    private static final int MOST_OBJECTS = 6_000, MOST_ELEMENTS = 73_000;

    private static int wrong = 0;

    private static void must(boolean holds, String what) {
        if (!holds) {
            wrong++;
            System.out.println("not so: " + what);
        }
    }

    private static String signature(Method m) {
        StringBuilder text = new StringBuilder(m.getName()).append('(');
        for (int i = 0; i < m.getParameterCount(); i++) {
            text.append(i == 0 ? "" : ",").append(m.getParameterTypes()[i].getName());
        }
        return text.append(')').append(m.getReturnType().getName()).toString();
    }

    private static void face() {
        Class<?> program = WagonLeaps.class;
        must(Modifier.isFinal(program.getModifiers()) && Modifier.isPublic(program.getModifiers()), "public and final");
        TreeSet<String> names = new TreeSet<>();
        TreeSet<String> found = new TreeSet<>();
        for (Method m : program.getDeclaredMethods()) {
            if (!Modifier.isPrivate(m.getModifiers())) {
                must(Modifier.isPublic(m.getModifiers()) && !Modifier.isStatic(m.getModifiers()), signature(m));
                found.add(signature(m));
                names.add(m.getName());
            }
        }
        must(found.equals(new TreeSet<>(FACE)), "the methods of the face: " + found);
        for (Method m : program.getDeclaredMethods()) {
            must(!Modifier.isPrivate(m.getModifiers()) || !names.contains(m.getName()), "a name of its own: " + m);
        }
        TreeSet<String> fields = new TreeSet<>();
        for (Field f : program.getDeclaredFields()) {
            if (!Modifier.isPrivate(f.getModifiers())) {
                fields.add(f.getName());
            }
            must(!Modifier.isStatic(f.getModifiers()) || Modifier.isFinal(f.getModifiers()), "final: " + f);
        }
        must(fields.equals(new TreeSet<>(CONSTANTS)), "the constants of the face: " + fields);
        for (Constructor<?> c : program.getDeclaredConstructors()) {
            must(Modifier.isPublic(c.getModifiers()) && c.getParameterCount() == 0, "one constructor");
        }
        for (Class<?> inside : program.getDeclaredClasses()) {
            int modifiers = inside.getModifiers();
            must(Modifier.isPrivate(modifiers) && Modifier.isStatic(modifiers), "private and static: " + inside);
            for (Method m : inside.getDeclaredMethods()) {
                must(!Modifier.isPrivate(m.getModifiers()) || !names.contains(m.getName()), "a name of its own: " + m);
            }
        }
    }

    private static void sizes() throws IOException {
        Class<?>[] classes = WagonLeaps.class.getDeclaredClasses();
        must(classes.length < MOST_CLASSES, "classes: " + classes.length);
        sizesOf(WagonLeaps.class);
        for (Class<?> inside : classes) {
            sizesOf(inside);
        }
        int methods = 0;
        String ending = "";
        int begun = 0;
        List<String> lines = Files.readAllLines(PROGRAM);
        for (int number = 0; number < lines.size(); number++) {
            Matcher head = METHOD.matcher(lines.get(number));
            if (ending.isEmpty() && head.matches()) {
                methods++;
                ending = head.group(1) + "}";
                begun = number;
            } else if (!ending.isEmpty() && lines.get(number).equals(ending)) {
                must(number - begun < LONGEST_METHOD, "as short: " + lines.get(begun));
                ending = "";
            }
        }
        must(methods > 80 && ending.isEmpty(), "the methods were found: " + methods);
    }

    private static void sizesOf(Class<?> program) {
        int fields = 0;
        for (Field f : program.getDeclaredFields()) {
            fields += Modifier.isStatic(f.getModifiers()) ? 0 : 1;
        }
        must(fields <= MOST_FIELDS, "fields of " + program + ": " + fields);
        for (Method m : program.getDeclaredMethods()) {
            must(m.getParameterCount() <= MOST_PARAMETERS, "parameters of " + m);
        }
    }

    /** How many objects and arrays an object is made of, and how many fields and elements they have. */
    private static int[] roomOf(Object whole) throws IllegalAccessException {
        int[] room = new int[2];
        addRoom(whole, Collections.newSetFromMap(new IdentityHashMap<>()), room);
        return room;
    }

    private static void addRoom(Object part, Set<Object> seen, int[] room) throws IllegalAccessException {
        if (part == null || !seen.add(part)) {
            return;
        }
        room[0]++;
        if (part.getClass().isArray()) {
            room[1] += Array.getLength(part);
            for (int i = 0; i < Array.getLength(part) && !part.getClass().getComponentType().isPrimitive(); i++) {
                addRoom(Array.get(part, i), seen, room);
            }
            return;
        }
        for (Field f : part.getClass().getDeclaredFields()) {
            if (!Modifier.isStatic(f.getModifiers())) {
                room[1]++;
                f.setAccessible(true);
                if (!f.getType().isPrimitive()) {
                    addRoom(f.get(part), seen, room);
                }
            }
        }
    }

    private static void room() throws IllegalAccessException {
        WagonLeaps x = new WagonLeaps();
        int[] made = roomOf(x);
        must(made[0] <= MOST_OBJECTS && made[1] <= MOST_ELEMENTS, "room: " + made[0] + ", " + made[1]);
        for (int round = 0; round < 20; round++) {
            for (char sign : "im.i.s".toCharArray()) {
                x.append(sign);
            }
            x.road();
            x.save();
            x.set(WagonLeaps.STOP, 1 + round % 3);
            x.worth(round % 2);
            x.ended(0, 0, 0);
            x.best();
            x.append('b');
            x.race();
            x.restore();
            x.undo();
        }
        int[] kept = roomOf(x);
        must(made[0] == kept[0] && made[1] == kept[1], "calls keep nothing more: " + kept[0] + ", " + kept[1]);
    }

    private static void text() throws IOException {
        int number = 0;
        for (String line : Files.readAllLines(PROGRAM)) {
            number++;
            String place = "line " + number + ": " + line;
            for (String part : NOT_ALLOWED) {
                must(!line.contains(part), place);
            }
            must(line.chars().allMatch(c -> c < 128), place);
            // Calls make nothing: all objects are made with the fields, or once in a history's constructor.
            must(!line.contains("new ") || line.contains("private final ")
                    || line.trim().equals("rows[i] = new Race();"), place);
        }
        must(number > 100, "the program's text");
    }

    public static void main(String[] args) throws IOException, IllegalAccessException {
        face();
        text();
        sizes();
        room();
        System.out.println(wrong == 0 ? "the face and the text are as they must be" : wrong + " are not so");
        if (wrong != 0) {
            System.exit(1);
        }
    }
}
