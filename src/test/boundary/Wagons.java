import java.util.regex.Matcher;
import java.util.regex.Pattern;

/**
 * An object of the program whose calls are told as texts, each with the answer that is due:
 * "drive(5) = INVALID_ARGUMENT". A road or a race with a text in quotes puts it on the pad first:
 * "race('12t') = 3". The document says nothing of a 513th call, so none is made.
 */
final class Wagons {
    private static final int MOST_CALLS = 512;
    private static final Pattern ROW = Pattern.compile("(\\w+)\\(([^)]*)\\) = (\\S+)");

    private final WagonLeaps program = new WagonLeaps();
    private int calls = 0;

    static Wagons on(String road) {
        Wagons x = new Wagons();
        x.answers("road('" + road + "') = " + road.length());
        return x;
    }

    static Wagons on(String road, int pace, int stop) {
        Wagons x = on(road);
        x.call("set", WagonLeaps.PACE, pace);
        x.call("set", WagonLeaps.STOP, stop);
        return x;
    }

    /** A road of one mile, at whose end the wagon 0 is; the wagon 1 is at the place 0. */
    static Wagons won() {
        Wagons x = on(".");
        x.answers("drive(2) = 2");
        return x;
    }

    /** Makes the calls of the rows, which stand one behind the other with "; " between them. */
    Wagons answers(String... texts) {
        for (String text : texts) {
            for (String row : text.split("; ")) {
                answer(row);
            }
        }
        return this;
    }

    private void answer(String row) {
        Matcher parts = ROW.matcher(row);
        if (!parts.matches()) {
            throw new IllegalArgumentException("not a row: " + row);
        }
        String arguments = parts.group(2);
        double got;
        if (arguments.startsWith("'")) {
            pad(arguments.substring(1, arguments.length() - 1));
            got = call(parts.group(1));
        } else {
            got = call(parts.group(1), numbers(arguments));
        }
        Report.due(row.substring(0, row.indexOf(" = ")), got, number(parts.group(3)));
    }

    private static int[] numbers(String arguments) {
        if (arguments.isEmpty()) {
            return new int[0];
        }
        String[] parts = arguments.split(", ");
        int[] numbers = new int[parts.length];
        for (int i = 0; i < parts.length; i++) {
            numbers[i] = (int) number(parts[i]);
        }
        return numbers;
    }

    private static double number(String text) {
        switch (text) {
            case "INVALID_ARGUMENT": return -1;
            case "NOT_POSSIBLE": return -2;
            case "LIMIT_REACHED": return -3;
            case "NOT_FOUND": return -4;
            case "MIN": return Integer.MIN_VALUE;
            case "MAX": return Integer.MAX_VALUE;
            default: return Double.parseDouble(text);
        }
    }

    /** Puts a text on the pad, in place of what is there. */
    Wagons pad(String text) {
        call("clear");
        return padMore(text);
    }

    Wagons padMore(String text) {
        for (char sign : text.toCharArray()) {
            call("append", sign);
        }
        return this;
    }

    int callsLeft() {
        return MOST_CALLS - calls;
    }

    double call(String name, int... a) {
        calls++;
        if (calls > MOST_CALLS) {
            throw new IllegalStateException("a call too many for one object: " + name);
        }
        switch (name) {
            case "drive": return program.drive(a[0]);
            case "token": return program.token();
            case "lose": return program.lose();
            case "best": return program.best();
            case "greedy": return program.greedy();
            case "again": return program.again();
            case "set": return program.set(a[0], a[1]);
            case "append": return program.append(a[0]);
            case "clear": return program.clear();
            case "fault": return program.fault(a[0]);
            case "road": return program.road();
            case "race": return program.race();
            case "why": return program.why(a[0]);
            case "mile": return program.mile(a[0], a[1]);
            case "wagon": return program.wagon(a[0], a[1]);
            case "ends": return program.ends(a[0]);
            case "worth": return program.worth(a[0]);
            case "worthOf": return program.worthOf(a[0]);
            case "bestTurn": return program.bestTurn();
            case "count": return program.count(a[0]);
            case "speed": return program.speed();
            case "ended": return program.ended(a[0], a[1], a[2]);
            case "undo": return program.undo();
            case "save": return program.save();
            case "restore": return program.restore();
            default: throw new IllegalArgumentException("not a call: " + name);
        }
    }

    private void tell(StringBuilder text, String name, int... arguments) {
        text.append(' ').append(name);
        for (int argument : arguments) {
            text.append(' ').append(argument);
        }
        text.append('=').append(call(name, arguments));
    }

    /** All that the looks tell of the race itself: some 70 calls on a road of 10 miles. */
    String race() {
        StringBuilder text = new StringBuilder();
        for (int what = 0; what <= 11; what++) {
            tell(text, "count", what);
        }
        for (int what = 0; what <= 7; what++) {
            tell(text, "wagon", 0, what);
            tell(text, "wagon", 1, what);
        }
        int miles = (int) call("count", 0);
        for (int mile = 1; mile <= miles; mile++) {
            for (int what = 0; what <= 3; what++) {
                tell(text, "mile", mile, what);
            }
        }
        return text.toString();
    }

    /** All that the looks tell: some 100 calls on a road of 10 miles. */
    String everything() {
        StringBuilder text = new StringBuilder(race());
        tell(text, "count", 12);
        tell(text, "count", 13);
        for (int two = 0; two <= 1; two++) {
            tell(text, "why", two);
            tell(text, "fault", two);
            tell(text, "worth", two);
        }
        for (int turn = 1; turn <= 4; turn++) {
            tell(text, "ends", turn);
            tell(text, "worthOf", turn);
        }
        tell(text, "worthOf", 5);
        tell(text, "bestTurn");
        tell(text, "speed");
        for (int what = 0; what <= 2; what++) {
            for (int both = 0; both <= 3; both++) {
                tell(text, "ended", both >> 1, both & 1, what);
            }
        }
        return text.toString();
    }

    /** Uses up what no look tells of: the states of the history, the snapshot, and the pad's characters. */
    String hidden() {
        StringBuilder text = new StringBuilder();
        while (call("undo") >= 0) {
            text.append("\n  undone:");
            brief(text);
        }
        tell(text, "restore");
        brief(text);
        text.append("\n  read:");
        tell(text, "race");
        tell(text, "road");
        return text.append(race()).toString();
    }

    private void brief(StringBuilder text) {
        for (int what : new int[] {0, 1, 2, 3, 7, 8, 9, 10, 11}) {
            tell(text, "count", what);
        }
        for (int what = 0; what <= 7; what++) {
            tell(text, "wagon", 0, what);
            tell(text, "wagon", 1, what);
        }
    }
}
