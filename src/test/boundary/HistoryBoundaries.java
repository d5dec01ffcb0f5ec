/** The promises 24 to 26: undo, and the snapshot. */
final class HistoryBoundaries extends Boundaries {
    @Override
    void tests() {
        undo();
        save();
        restore();
    }

    private void undo() {
        section("Promise 24: undo");
        sentence("Undoes the latest change: everything but the pad, the snapshot and why() is as it was before "
                + "it.", () -> {
            String best = "best() = " + (int) middle().call("bestTurn");
            for (String change : new String[] {"drive(1) = 5", "drive(3) = 7", "token() = 2", best, "greedy() = 3",
                "again() = 10", "set(0, 1) = 3", "set(0, 3) = 3", "set(1, 3) = 2", "road('m') = 1", "race('1') = 1",
                "race('-') = 0", "race('gg') = 2", "restore() = 1"}) {
                undoneIs(middle(), change);
            }
            undoneIs(middle().answers("token() = 2"), "lose() = 1");
            undoneIs(middle().answers("token() = 2"), "best() = 0");
            undoneIs(middle().answers("token() = 2"), "greedy() = 0");
            // The turn that ends the race, and changes of a race that is over.
            undoneIs(Wagons.on("."), "drive(2) = 2");
            undoneIs(Wagons.on(".").answers("drive(1) = 1"), "race('22') = 1");
            undoneIs(Wagons.won(), "again() = 1");
            undoneIs(Wagons.won(), "road('.ms') = 3");
            undoneIs(Wagons.won(), "race('1') = 0");
            undoneIs(Wagons.won(), "set(1, 3) = 1");
            // The pad, the snapshot, and why() stay.
            new Wagons().answers("race('1-') = 1; save() = 1; append(46) = 1; append(109) = 2; undo() = 0",
                    "count(12) = 2",
                    "why(0) = 1; why(1) = 3; count(3) = 0; restore() = 1; undo() = 0; road() = 2; mile(2, 0) = 1",
                    "undo() = 0",
                    "count(12) = 0; count(0) = 10; restore() = 1; count(7) = 1");
            // What is undone is not there again by undoing once more.
            new Wagons().answers("set(0, 1) = 3; set(0, 2) = 1; undo() = 1; count(10) = 1; undo() = 0",
                    "count(10) = 3");
        });
        sentence("Returns how many states the history has then; NOT_POSSIBLE if it has none.", () -> {
            new Wagons().answers("undo() = NOT_POSSIBLE; drive(1) = 1; undo() = 0; undo() = NOT_POSSIBLE",
                    "count(13) = 0");
            Wagons x = new Wagons();
            for (int changes = 1; changes <= 9; changes++) {
                x.answers("again() = 10; count(13) = " + Math.min(4, changes));
            }
            x.answers("undo() = 3; undo() = 2; undo() = 1; undo() = 0; undo() = NOT_POSSIBLE",
                    "undo() = NOT_POSSIBLE; count(7) = 6");
            // A state more behind each one that is undone.
            new Wagons().answers("again() = 10; again() = 10; again() = 10; again() = 10; undo() = 3",
                    "again() = 10; count(13) = 4",
                    "again() = 10; count(13) = 4; undo() = 3; undo() = 2; again() = 10; undo() = 2; undo() = 1",
                    "undo() = 0",
                    "undo() = NOT_POSSIBLE; count(7) = 2");
        });
    }

    /** A race of some turns, on a road of the object's own, with a snapshot of the first of them. */
    private static Wagons middle() {
        return Wagons.on(".s..im..s.", 3, 2).answers("drive(1) = 1; save() = 1; drive(1) = 3; drive(1) = 4",
                "wagon(0, 7) = 1");
    }

    /** Before a change and after it is undone the looks tell the same; the history may have dropped a state. */
    private static void undoneIs(Wagons x, String change) {
        String before = x.race() + x.call("worth", 0) + " " + x.call("bestTurn") + " " + x.call("speed");
        int states = (int) x.call("count", 13);
        x.answers(change, "count(13) = " + Math.min(4, states + 1), "undo() = " + Math.min(3, states));
        String after = x.race() + x.call("worth", 0) + " " + x.call("bestTurn") + " " + x.call("speed");
        Report.same("undone " + change, after, before);
    }

    private void save() {
        section("Promise 25: save");
        sentence("Takes a snapshot of everything but the pad, the history and why(), in place of the one that "
                + "was.", () -> {
            Wagons x = middle();
            x.answers("save() = 3");
            String saved = x.race();
            x.answers("race('g4') = 1; road('mi') = 2; set(0, 1) = 3; set(1, 1) = 2; drive(1) = 1; append(46) = 1");
            x.answers("restore() = 3; count(12) = 1; count(13) = 4; why(0) = 1; why(1) = 4");
            Report.same("restored", x.race(), saved);
            // The latest one alone, also when it is the same, and when the race is over or new.
            new Wagons().answers("restore() = NOT_POSSIBLE; save() = 0; drive(1) = 1; save() = 1; drive(1) = 2",
                    "restore() = 1",
                    "wagon(1, 0) = 0; save() = 1; save() = 1; again() = 10; save() = 0; restore() = 0",
                    "wagon(0, 0) = 0");
            Wagons.won().answers("save() = 1; again() = 1; drive(1) = 1; restore() = 1; count(2) = 0",
                    "drive(1) = NOT_POSSIBLE",
                    "count(8) = 1; count(7) = 2");
            // What changes later is not in it, and no change is made.
            new Wagons().answers("count(13) = 0; save() = 0; count(13) = 0; undo() = NOT_POSSIBLE; set(0, 1) = 3",
                    "restore() = 0",
                    "count(10) = 3; set(0, 4) = 3; restore() = 0; count(10) = 3");
        });
        sentence("Returns the turns so far in this race.", () -> {
            new Wagons().answers("save() = 0; drive(1) = 1; save() = 1; token() = 1; save() = 2; lose() = 0",
                    "save() = 3; undo() = 2",
                    "save() = 2; again() = 10; save() = 0; race('-') = 0; save() = 0; race('12-') = 2",
                    "save() = 2; road('.') = 1",
                    "save() = 0");
            Wagons.on(FOURTEEN_INNS, 1, 3).pad(SIXTY_TURNS)
                    .answers("race() = 60; save() = 60; again() = 14; restore() = 60");
            Wagons.won().answers("save() = 1");
        });
    }

    private void restore() {
        section("Promise 26: restore");
        sentence("Restores the snapshot, which stays.", () -> {
            Wagons x = middle().answers("save() = 3");
            String saved = x.race();
            for (int time = 0; time < 2; time++) {
                x.answers("again() = 10; road('.') = 1; drive(2) = 2; set(0, 4) = 3; restore() = 3");
                Report.same("restored", x.race(), saved);
                x.answers("drive(2) = 6; drive(1) = 5; restore() = 3");
                Report.same("restored", x.race(), saved);
            }
            // The pad, the history and why() are no part of it; it stays through what is undone.
            new Wagons().answers("save() = 0; race('1-') = 1; append(46) = 1; restore() = 0; count(12) = 1",
                    "why(0) = 1; count(13) = 2",
                    "undo() = 1; count(3) = 1; undo() = 0; count(3) = 0; undo() = NOT_POSSIBLE; restore() = 0",
                    "count(13) = 1");
            // Restored into a full history, which drops its oldest state.
            new Wagons().answers("save() = 0; set(0, 1) = 3; set(0, 2) = 1; set(0, 3) = 2; set(0, 4) = 3",
                    "count(13) = 4; restore() = 0",
                    "count(13) = 4; count(10) = 3; undo() = 3; count(10) = 4; undo() = 2; undo() = 1; undo() = 0",
                    "count(10) = 1",
                    "undo() = NOT_POSSIBLE");
        });
        sentence("Returns the turns so far in this race then; NOT_POSSIBLE if there is none.", () -> {
            new Wagons().answers("restore() = NOT_POSSIBLE; drive(1) = 1; restore() = NOT_POSSIBLE",
                    "count(13) = 1; undo() = 0",
                    "restore() = NOT_POSSIBLE; save() = 0; restore() = 0; undo() = 0; restore() = 0",
                    "drive(1) = 1; drive(1) = 2",
                    "save() = 2; restore() = 2; again() = 10; restore() = 2; count(3) = 2; undo() = 3",
                    "count(3) = 0; restore() = 2");
            Wagons.won().answers("restore() = NOT_POSSIBLE; save() = 1; undo() = 1; restore() = 1; count(2) = 0");
        });
    }
}
