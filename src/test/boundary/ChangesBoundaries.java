import java.util.ArrayList;
import java.util.List;
import java.util.Set;
import java.util.TreeSet;
import java.util.function.Supplier;

/** The changes and the history, the errors, and the calls that change nothing. */
final class ChangesBoundaries extends Boundaries {
    private static final int MIN = Integer.MIN_VALUE, MAX = Integer.MAX_VALUE;
    private static final Set<String> LOOKS = Set.of("mile", "wagon", "ends", "worth", "worthOf", "bestTurn", "count",
            "speed");

    private static final List<String> ERRORS = List.of("drive-1", "drive-2", "token-2", "lose-2", "best-2", "greedy-2",
            "set-1", "append-1", "append-3", "fault-1", "fault-4", "road-2", "race-2", "why-1", "why-4", "mile-1",
            "mile-4", "wagon-1", "ends-1", "ends-2", "worth-1", "worthOf-1", "worthOf-2", "bestTurn-2", "count-1",
            "count-4", "ended-1", "undo-2", "restore-2");

    /** Objects in such states that each error applies to some call in one of them. */
    private static final List<Supplier<Wagons>> STATES = List.of(
            Wagons::new,
            ChangesBoundaries::fullHistory,
            ChangesBoundaries::lostTurn,
            ChangesBoundaries::noToken,
            ChangesBoundaries::over,
            ChangesBoundaries::overOnOneMile,
            ChangesBoundaries::fullPad);

    @Override
    void tests() {
        section("Changes and errors");
        changes();
        history();
        severalErrors();
        errors();
        constants();
        looks();
    }

    private static Wagons fullHistory() {
        Wagons x = Wagons.on("m.si..si.m", 3, 2);
        return x.answers("race('3t') = 2; save() = 2; race('--') = 1; count(13) = 4; fault(1) = 0").pad("1t2");
    }

    private static Wagons lostTurn() {
        return Wagons.on(".i..", 4, 3).answers("drive(1) = 1; save() = 1; token() = 3; lose() = 2",
                "drive(1) = 2").pad(".ms");
    }

    private static Wagons noToken() {
        return Wagons.on("......", 1, 1).answers("race('t-t') = 2; count(13) = 4; why(1) = 5").pad("1tx");
    }

    private static Wagons over() {
        return new Wagons().answers("set(0, 4) = 3; save() = 0; race('434g444') = 5; count(2) = 0; why(1) = 1")
                .pad(".".repeat(15));
    }

    private static Wagons overOnOneMile() {
        return Wagons.on(".", 4, 3).answers("token() = 3; lose() = 2; drive(4) = 2; count(2) = 0").pad("m");
    }

    private static Wagons fullPad() {
        return Wagons.on("....", 1, 1).pad("t-1".repeat(20));
    }

    private void changes() {
        sentence("The changes are the calls of drive, token, lose, best, greedy, again, set, road, race and restore "
                + "that return no error.", () -> {
            recorded("drive(1) = 1", 1);
            recorded("token() = 1", 1);
            recorded("token() = 1; lose() = 0", 2);
            recorded("best() = 3", 1);
            recorded("greedy() = 3", 1);
            recorded("again() = 10", 1);
            recorded("set(0, 1) = 3", 1);
            recorded("set(1, 3) = 1", 1);
            recorded("road('.') = 1", 1);
            recorded("race('1') = 1", 1);
            recorded("save() = 0; restore() = 0", 1);
            for (String refused : new String[] {"drive(0) = INVALID_ARGUMENT", "drive(4) = NOT_POSSIBLE",
                "lose() = NOT_POSSIBLE", "set(0, 5) = INVALID_ARGUMENT", "set(2, 1) = INVALID_ARGUMENT",
                "road('') = NOT_POSSIBLE", "race('') = NOT_POSSIBLE", "road('x') = NOT_POSSIBLE",
                "race('1x') = NOT_POSSIBLE", "restore() = NOT_POSSIBLE", "undo() = NOT_POSSIBLE"}) {
                recorded(refused, 0);
            }
            recorded("token() = 1; token() = NOT_POSSIBLE; drive(1) = NOT_POSSIBLE", 1);
            recorded("road('.') = 1; drive(2) = 2; best() = NOT_POSSIBLE; greedy() = NOT_POSSIBLE", 2);
            recorded("append(46) = 1; clear() = 1; fault(0) = 0; why(0) = NOT_FOUND; save() = 0; mile(1, 0) = 0", 0);
            recorded("wagon(0, 0) = 0; ends(1) = 1; bestTurn() = 3; speed() = 0; ended(1, 1, 0) = 0", 0);
        });
    }

    private static void recorded(String rows, int states) {
        new Wagons().answers("count(13) = 0").answers(rows).answers("count(13) = " + states);
    }

    private void history() {
        sentence("A history of at most 4 states is kept: each change records everything before it but the pad, the "
                + "snapshot and why() (also if nothing is different then), and if there are 5 states then, the oldest "
                + "one is dropped.", () -> {
            new Wagons().answers("count(13) = 0; undo() = NOT_POSSIBLE; drive(1) = 1; count(13) = 1; drive(2) = 3",
                    "count(13) = 2; drive(1) = 2; count(13) = 3; drive(1) = 4; count(13) = 4; drive(1) = 3",
                    "count(13) = 4; drive(1) = 5; count(13) = 4; undo() = 3; wagon(1, 0) = 4; wagon(0, 0) = 3",
                    "undo() = 2; wagon(0, 0) = 2; undo() = 1; wagon(1, 0) = 3; undo() = 0; wagon(0, 0) = 1",
                    "count(3) = 2; undo() = NOT_POSSIBLE; count(3) = 2");
            for (int changes = 0; changes <= 13; changes++) {
                latestStatesAfter(changes);
            }
            // Fewer, more, and fewer states again.
            new Wagons().answers("set(0, 1) = 3; set(0, 2) = 1; set(0, 4) = 2; undo() = 2; undo() = 1; set(1, 2) = 1",
                    "set(1, 3) = 2; set(1, 1) = 3; count(13) = 4; set(0, 4) = 1; count(13) = 4; undo() = 3",
                    "count(10) = 1",
                    "undo() = 2; count(11) = 3; undo() = 1; count(11) = 2; undo() = 0; count(11) = 1; count(10) = 1",
                    "undo() = NOT_POSSIBLE");
            // Also if nothing is different then.
            new Wagons().answers("set(0, 3) = 3; count(13) = 1; set(1, 1) = 1; count(13) = 2; race('-') = 0",
                    "count(13) = 3",
                    "save() = 0; restore() = 0; count(13) = 4; undo() = 3; undo() = 2; undo() = 1; undo() = 0");
            // The pad, the snapshot, and why() are not recorded.
            new Wagons().answers("race('1-') = 1; save() = 1; undo() = 0; why(0) = 1; why(1) = 3",
                    "count(3) = 0").pad("mm")
                    .answers("restore() = 1; count(12) = 2; undo() = 0; count(12) = 2; road() = 2; undo() = 0",
                            "count(12) = 0");
        });
    }

    /** After settings that go 3, 1, 2, 3, 4, 1, 2 ... by so many changes, the latest four come back. */
    private static void latestStatesAfter(int changes) {
        Wagons x = new Wagons();
        for (int change = 1; change <= changes; change++) {
            x.answers("set(0, " + pace(change) + ") = " + pace(change - 1) + "; count(13) = " + Math.min(4, change));
        }
        int states = Math.min(4, changes);
        for (int undone = 1; undone <= states; undone++) {
            x.answers("undo() = " + (states - undone) + "; count(10) = " + pace(changes - undone));
        }
        x.answers("undo() = NOT_POSSIBLE; count(13) = 0; count(10) = " + pace(changes - states));
    }

    private static int pace(int change) {
        return change == 0 ? 3 : 1 + (change - 1) % 4;
    }

    private void severalErrors() {
        sentence("If several errors apply to a call, INVALID_ARGUMENT is returned rather than NOT_POSSIBLE, "
                + "NOT_POSSIBLE rather than LIMIT_REACHED, and LIMIT_REACHED rather than NOT_FOUND.", () -> {
            for (String call : new String[] {"drive", "ends", "worthOf"}) {
                // Over; over and above PACE; a lost turn; above PACE.
                Wagons.won().answers("set(0, 1) = 3; " + call + "(1) = NOT_POSSIBLE; " + call + "(4) = NOT_POSSIBLE",
                        call + "(0) = INVALID_ARGUMENT; " + call + "(6) = INVALID_ARGUMENT");
                new Wagons().answers("token() = 1; " + call + "(3) = NOT_POSSIBLE",
                        "" + call + "(4) = NOT_POSSIBLE; " + call
                        + "(0) = INVALID_ARGUMENT; " + call + "(6) = INVALID_ARGUMENT",
                                "" + call + "(MIN) = INVALID_ARGUMENT");
                new Wagons().answers(call + "(4) = NOT_POSSIBLE; " + call + "(MAX) = INVALID_ARGUMENT");
            }
            Wagons.won().answers("drive(5) = INVALID_ARGUMENT; ends(5) = INVALID_ARGUMENT; worthOf(5) = NOT_POSSIBLE",
                    "worth(2) = INVALID_ARGUMENT; worth(-1) = INVALID_ARGUMENT; ended(2, 0, 0) = INVALID_ARGUMENT");
            new Wagons().answers("drive(5) = INVALID_ARGUMENT; ends(5) = INVALID_ARGUMENT");
            // A full pad.
            new Wagons().pad("~".repeat(60)).answers("append(33) = LIMIT_REACHED; append(126) = LIMIT_REACHED",
                    "append(32) = INVALID_ARGUMENT; append(127) = INVALID_ARGUMENT; append(MIN) = INVALID_ARGUMENT",
                    "append(MAX) = INVALID_ARGUMENT; count(12) = 60");
            // Nothing to be found.
            new Wagons().pad(".").answers("fault(0) = NOT_FOUND; fault(2) = INVALID_ARGUMENT",
                    "fault(-1) = INVALID_ARGUMENT");
            new Wagons().answers("why(0) = NOT_FOUND; why(1) = NOT_FOUND; why(2) = INVALID_ARGUMENT",
                    "why(-1) = INVALID_ARGUMENT",
                    "mile(1, 1) = NOT_FOUND; mile(11, 1) = INVALID_ARGUMENT; mile(0, 1) = INVALID_ARGUMENT",
                    "mile(1, 4) = INVALID_ARGUMENT; mile(1, -1) = INVALID_ARGUMENT; mile(0, 4) = INVALID_ARGUMENT",
                    "count(2) = NOT_FOUND; count(14) = INVALID_ARGUMENT; set(2, 0) = INVALID_ARGUMENT",
                    "set(-1, 9) = INVALID_ARGUMENT; wagon(2, 8) = INVALID_ARGUMENT",
                    "ended(2, 2, 3) = INVALID_ARGUMENT");
            // No call has both NOT_POSSIBLE and LIMIT_REACHED, nor LIMIT_REACHED and NOT_FOUND.
            // A fault of the pad is an error, a race that is over is none.
            Wagons.won().answers("race('') = NOT_POSSIBLE; race('x') = NOT_POSSIBLE; race('1') = 0; why(1) = 1");
        });
    }

    private void errors() {
        sentence("A call that returns an error changes nothing (the pad stays, too).", () -> {
            TreeSet<String> met = new TreeSet<>();
            for (Supplier<Wagons> state : STATES) {
                String hidden = state.get().hidden();
                for (Call call : allCalls()) {
                    int answer = (int) state.get().call(call.name, call.arguments);
                    if (answer < 0) {
                        met.add(call.name + answer);
                        changesNothing(state, call, hidden);
                    }
                }
            }
            // Each error that a promise names has been met, and no other one.
            Report.same("errors", met.toString(), new TreeSet<>(ERRORS).toString());
        });
    }

    private void looks() {
        sentence("Ahead of the calls `mile`, `wagon`, `ends`, `worth`, `worthOf`, `bestTurn`, `count`, `speed` the "
                + "interface says: ---- looks; nothing is changed.", () -> lookEverywhere(LOOKS));
        sentence("Ahead of the calls `ended` the interface says: ---- what would be; nothing is changed.",
                () -> lookEverywhere(Set.of("ended")));
    }

    private static void lookEverywhere(Set<String> names) {
        for (Supplier<Wagons> state : STATES) {
            String hidden = state.get().hidden();
            for (Call call : allCalls()) {
                if (names.contains(call.name)) {
                    changesNothing(state, call, hidden);
                }
            }
        }
    }

    /** Looks at the state before and after a call; what is hidden is that of an object without the call. */
    private static void changesNothing(Supplier<Wagons> state, Call call, String hidden) {
        Wagons x = state.get();
        String before = x.everything();
        x.call(call.name, call.arguments);
        Report.same("state " + STATES.indexOf(state) + " after " + call.told(), x.everything(), before);
        Report.same("hidden state " + STATES.indexOf(state) + " after " + call.told(), x.hidden(), hidden);
    }

    private static final class Call {
        private final String name;
        private final int[] arguments;

        Call(String name, int... arguments) {
            this.name = name;
            this.arguments = arguments;
        }

        String told() {
            StringBuilder text = new StringBuilder(name);
            for (int argument : arguments) {
                text.append(' ').append(argument);
            }
            return text.toString();
        }
    }

    /** Each call with arguments in its ranges, next to them, and far from them. */
    private static List<Call> allCalls() {
        List<Call> calls = new ArrayList<>();
        for (String name : new String[] {"token", "lose", "best", "greedy", "again", "clear", "road", "race",
            "bestTurn", "speed", "undo", "save", "restore"}) {
            calls.add(new Call(name));
        }
        for (String name : new String[] {"drive", "append", "fault", "why", "ends", "worth", "worthOf", "count"}) {
            for (int a : new int[] {MIN, -1, 0, 1, 2, 3, 4, 5, 6, 13, 14, 32, 33, 126, 127, MAX}) {
                calls.add(new Call(name, a));
            }
        }
        for (String name : new String[] {"set", "mile", "wagon"}) {
            for (int a : new int[] {MIN, -1, 0, 1, 2, 10, 11, MAX}) {
                for (int b : new int[] {MIN, -1, 0, 1, 3, 4, 5, 7, 8, MAX}) {
                    calls.add(new Call(name, a, b));
                }
            }
        }
        for (int zero : new int[] {MIN, -1, 0, 1, 2}) {
            for (int one : new int[] {-1, 0, 1, 2, MAX}) {
                for (int what : new int[] {MIN, -1, 0, 1, 2, 3, MAX}) {
                    calls.add(new Call("ended", zero, one, what));
                }
            }
        }
        return calls;
    }

    private void constants() {
        sentence("The constants: `INVALID_ARGUMENT = -1`: An argument is out of its range.", () -> {
            Report.due("INVALID_ARGUMENT", WagonLeaps.INVALID_ARGUMENT, -1);
            new Wagons().answers("drive(1) = 1; drive(0) = -1; append(33) = 1; append(32) = -1; fault(1) = 0",
                    "fault(2) = -1",
                    "why(2) = -1; set(0, 5) = -1; mile(11, 0) = -1; wagon(2, 0) = -1; ends(0) = -1; worth(2) = -1",
                    "worthOf(6) = -1; count(14) = -1; ended(0, 0, 3) = -1");
        });
        sentence("`NOT_POSSIBLE = -2`: The call is not possible in the present state.", () -> {
            Report.due("NOT_POSSIBLE", WagonLeaps.NOT_POSSIBLE, -2);
            new Wagons().answers("lose() = -2; token() = 1; token() = -2; drive(1) = -2; ends(1) = -2",
                    "worthOf(1) = -2; lose() = 0",
                    "restore() = -2; road() = -2; race() = -2; undo() = 1; undo() = 0; undo() = -2");
            Wagons.won().answers("best() = -2; greedy() = -2; bestTurn() = -2; again() = 1; best() = 2");
        });
        sentence("`LIMIT_REACHED = -3`: A fixed limit has been reached.", () -> {
            Report.due("LIMIT_REACHED", WagonLeaps.LIMIT_REACHED, -3);
            new Wagons().pad("a".repeat(59)).answers("append(97) = 60; append(97) = -3");
        });
        sentence("`NOT_FOUND = -4`: There is no such value.", () -> {
            Report.due("NOT_FOUND", WagonLeaps.NOT_FOUND, -4);
            new Wagons().pad("1").answers("fault(1) = -4; fault(0) = 0; why(0) = -4; mile(1, 1) = -4; drive(1) = 1",
                    "mile(1, 1) = 0; count(2) = -4; count(1) = 1");
            Wagons.won().answers("count(1) = -4; count(2) = 0");
        });
        sentence("`PACE = 0, STOP = 1`: Numbers of the settings.", () -> {
            Report.due("PACE", WagonLeaps.PACE, 0);
            Report.due("STOP", WagonLeaps.STOP, 1);
            new Wagons().answers("set(-1, 1) = INVALID_ARGUMENT; set(0, 4) = 3; set(1, 3) = 1",
                    "set(2, 1) = INVALID_ARGUMENT",
                    "count(10) = 4; count(11) = 3");
        });
    }
}
