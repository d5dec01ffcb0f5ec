/** The promises 1 to 8: a new object, and the turns. */
final class TurnBoundaries extends Boundaries {
    @Override
    void tests() {
        newObject();
        drive();
        token();
        lose();
        best();
        greedy();
        again();
        set();
    }

    private void newObject() {
        section("Promise 1: A new object");
        sentence("Begins a race on a road of 10 plain miles.", () -> {
            Wagons x = new Wagons();
            x.answers("count(0) = 10; count(1) = 0; count(2) = NOT_FOUND; count(3) = 0; count(4) = 0; count(5) = 0",
                    "count(6) = 0; count(7) = 1; count(8) = 0; count(9) = 0; count(10) = 3; count(11) = 1",
                    "count(12) = 0",
                    "count(13) = 0; mile(11, 0) = INVALID_ARGUMENT; undo() = NOT_POSSIBLE; restore() = NOT_POSSIBLE",
                    "why(0) = NOT_FOUND; why(1) = NOT_FOUND; clear() = 0; fault(0) = 0; fault(1) = 0; speed() = 0");
            for (int mile = 1; mile <= 10; mile++) {
                String begin = "mile(" + mile + ", ";
                x.answers(begin + "0) = 0; " + begin + "1) = NOT_FOUND; " + begin + "2) = 0; " + begin + "3) = 0");
            }
            for (int wagon = 0; wagon <= 1; wagon++) {
                for (int what = 0; what <= 7; what++) {
                    x.answers("wagon(" + wagon + ", " + what + ") = " + (what == 1 ? 1 : 0));
                }
            }
            // Nothing of one object is seen in another one.
            x.answers("set(0, 4) = 3; race('1-') = 1; save() = 1; road('m') = 1; append(46) = 1");
            new Wagons().answers("count(0) = 10; count(3) = 0; count(10) = 3; count(12) = 0; count(13) = 0",
                    "mile(1, 2) = 0",
                    "why(0) = NOT_FOUND; restore() = NOT_POSSIBLE; undo() = NOT_POSSIBLE; worth(0) = "
                            + (int) new Wagons().call("worth", 1));
        });
    }

    private void drive() {
        section("Promise 2: drive");
        sentence("The wagon on turn drives.",
                () -> new Wagons().answers("drive(2) = 2; wagon(0, 0) = 2; wagon(1, 0) = 0; wagon(0, 3) = 1",
                        "wagon(1, 3) = 0",
                        "drive(1) = 1; wagon(0, 0) = 2; wagon(1, 0) = 1; wagon(0, 3) = 1; wagon(1, 3) = 1",
                        "drive(3) = 5",
                        "count(3) = 3; count(1) = 1; token() = 1; drive(1) = NOT_POSSIBLE; lose() = 0",
                        "drive(1) = 2"));
        sentence("`miles`: 1 to 4", () -> {
            Wagons x = Wagons.on("..............", 4, 1);
            x.answers("drive(1) = 1; drive(4) = 5; count(13) = 4; drive(0) = INVALID_ARGUMENT",
                    "drive(5) = INVALID_ARGUMENT");
            refusesOutside(x, "drive(#)", 1, 4);
            x.answers("count(3) = 2; drive(4) = 6");
        });
        sentence("Returns the place where it is then; INVALID_ARGUMENT; NOT_POSSIBLE if the race is over, the wagon "
                + "loses this turn, or miles is above PACE.", () -> {
            Wagons.on("..............", 4, 1).answers("drive(1) = 1; drive(1) = 2");
            Wagons.on("sssssssssssss.").answers("drive(3) = 14; drive(3) = 15; drive(1) = NOT_POSSIBLE");
            for (int pace = 1; pace <= 4; pace++) {
                for (int miles = 1; miles <= 4; miles++) {
                    Wagons.on("....", pace, 1).answers("drive(" + miles + ") = " + (miles <= pace ? miles : -2));
                }
            }
            Wagons.on(".").answers("drive(1) = 1; drive(3) = 2; drive(1) = NOT_POSSIBLE; drive(3) = NOT_POSSIBLE",
                    "undo() = 2; drive(3) = 2");
            Wagons.on("m...").answers("drive(1) = 1; drive(1) = 2; drive(1) = NOT_POSSIBLE; drive(4) = NOT_POSSIBLE",
                    "lose() = 0; drive(1) = 3; drive(1) = 2");
        });
    }

    private void token() {
        section("Promise 3: token");
        sentence("The wagon on turn uses its token.",
                () -> new Wagons().answers("token() = 1; wagon(0, 1) = 0; wagon(0, 6) = 1; wagon(1, 1) = 1",
                        "wagon(1, 6) = 0",
                        "wagon(0, 0) = 0; count(3) = 1; count(1) = 1; lose() = 0; drive(1) = 1; token() = 1",
                        "wagon(1, 1) = 0",
                        "wagon(1, 6) = 1; wagon(0, 6) = 1; wagon(0, 2) = 1"));
        sentence("Returns how many turns the other wagon loses then; "
                + "NOT_POSSIBLE if the race is over, the wagon loses "
                + "this turn, or it has no token.", () -> {
            Wagons.on("....", 3, 1).answers("token() = 1; token() = NOT_POSSIBLE; lose() = 0",
                    "token() = NOT_POSSIBLE");
            Wagons.on("....", 3, 2).answers("token() = 2; token() = NOT_POSSIBLE");
            Wagons.on("....", 3, 3).answers("token() = 3; token() = NOT_POSSIBLE");
            Wagons.on("m...", 3, 2).answers("drive(1) = 1; token() = 3");
            Wagons.on("m...", 3, 3).answers("drive(1) = 1; token() = 3; token() = NOT_POSSIBLE; lose() = 2",
                    "token() = NOT_POSSIBLE");
            // The loser has its token still; the one that loses its last turn, too.
            Wagons.won().answers("wagon(1, 1) = 1; token() = NOT_POSSIBLE; undo() = 1; token() = 1");
            Wagons.on("m...").answers("drive(1) = 1; drive(1) = 2; wagon(0, 1) = 1; token() = NOT_POSSIBLE",
                    "lose() = 0",
                    "token() = 1; token() = NOT_POSSIBLE; lose() = 0; drive(1) = 3; token() = 1; wagon(1, 1) = 0");
        });
    }

    private void lose() {
        section("Promise 4: lose");
        sentence("The wagon on turn loses this turn.",
                () -> new Wagons().answers("token() = 1; lose() = 0; wagon(1, 3) = 1; wagon(1, 4) = 1",
                        "wagon(1, 0) = 0",
                        "wagon(1, 1) = 1; wagon(0, 3) = 1; wagon(0, 4) = 0; count(1) = 0; count(3) = 2"));
        sentence("Returns how many turns it loses still; "
                + "NOT_POSSIBLE if the race is over, or the wagon does not lose "
                + "this turn.", () -> {
            Wagons.on("....", 1, 3).answers("lose() = NOT_POSSIBLE; token() = 3; lose() = 2; lose() = NOT_POSSIBLE",
                    "drive(1) = 1; lose() = 1; drive(1) = 2; lose() = 0; drive(1) = 3; lose() = NOT_POSSIBLE");
            Wagons.on("m.").answers("drive(1) = 1; lose() = NOT_POSSIBLE; drive(1) = 2; lose() = 0",
                    "lose() = NOT_POSSIBLE");
            // Over, while the wagon loses turns and while it loses none.
            Wagons.on(".", 3, 3).answers("token() = 3; lose() = 2; drive(2) = 2; wagon(1, 2) = 2",
                    "lose() = NOT_POSSIBLE");
            Wagons.won().answers("lose() = NOT_POSSIBLE");
        });
    }

    private void best() {
        section("Promise 5: best");
        sentence("The wagon on turn makes the best turn (or loses it, if it has to).",
                () -> Wagons.on(".", 1, 2).answers("best() = 5; wagon(0, 6) = 1; wagon(1, 2) = 2; best() = 0",
                        "wagon(1, 2) = 1",
                        "wagon(1, 4) = 1; best() = 1; wagon(0, 0) = 1; best() = 0; wagon(1, 2) = 0; best() = 1",
                        "count(2) = 0",
                        "count(3) = 5"));
        sentence("Returns the miles that it drives, 5 if it uses its token, 0 if it loses the turn; "
                + "NOT_POSSIBLE if the "
                + "race is over.", () -> {
            Wagons.on("s", 4, 1).answers("best() = 1; wagon(0, 0) = 2; best() = NOT_POSSIBLE");
            Wagons.on(".", 4, 1).answers("best() = 2; wagon(0, 0) = 2; best() = NOT_POSSIBLE");
            Wagons.on("..", 4, 1).answers("best() = 3; wagon(0, 0) = 3; best() = NOT_POSSIBLE");
            Wagons.on("...", 4, 1).answers("best() = 4; wagon(0, 0) = 4; best() = NOT_POSSIBLE; count(13) = 4",
                    "undo() = 3",
                    "best() = 4");
            Wagons.on(".", 1, 1).answers("best() = 5; best() = 0; best() = 1; best() = 1; count(2) = 1",
                    "best() = NOT_POSSIBLE");
            // Over, while the wagon loses turns.
            Wagons.on(".", 3, 3).answers("token() = 3; best() = 0; best() = 2; wagon(1, 2) = 2",
                    "best() = NOT_POSSIBLE");
        });
    }

    private void greedy() {
        section("Promise 6: greedy");
        sentence("The wagon on turn drives by greed (or loses the turn, if it has to).",
                () -> Wagons.on("..s.......", 3, 2).answers("greedy() = 3; wagon(0, 0) = 4; token() = 2",
                        "greedy() = 0",
                        "wagon(0, 2) = 1; wagon(0, 4) = 1; greedy() = 3; wagon(1, 0) = 5; greedy() = 0",
                        "wagon(0, 2) = 0",
                        "greedy() = 3; wagon(1, 0) = 8; greedy() = 3; wagon(0, 0) = 7"));
        sentence("Returns the miles that it drives, 0 if it loses the turn; "
                + "NOT_POSSIBLE if the race is over.", () -> {
            Wagons.on("s", 4, 1).answers("greedy() = 1; wagon(0, 0) = 2; greedy() = NOT_POSSIBLE");
            Wagons.on(".", 4, 1).answers("greedy() = 2; wagon(0, 0) = 2; greedy() = NOT_POSSIBLE");
            Wagons.on("..", 4, 1).answers("greedy() = 3; wagon(0, 0) = 3; greedy() = NOT_POSSIBLE");
            Wagons.on("....", 4, 1).answers("greedy() = 4; wagon(0, 0) = 4; greedy() = 4; count(2) = 1",
                    "greedy() = NOT_POSSIBLE");
            Wagons.on(".", 3, 3).answers("token() = 3; greedy() = 0; greedy() = 2; wagon(1, 2) = 2",
                    "greedy() = NOT_POSSIBLE");
        });
    }

    private void again() {
        section("Promise 7: again");
        sentence("Begins again on the same road.", () -> {
            Wagons x = Wagons.on(".msi", 2, 3);
            x.answers("drive(1) = 1; token() = 3; lose() = 2; drive(2) = 4; count(1) = 0; again() = 4; count(0) = 4",
                    "mile(1, 0) = 0; mile(2, 0) = 1; mile(3, 0) = 2; mile(4, 0) = 3; count(1) = 0",
                    "count(2) = NOT_FOUND",
                    "count(3) = 0; count(7) = 3; count(8) = 0; count(9) = 0; count(10) = 2; count(11) = 3",
                    "speed() = 0");
            for (int wagon = 0; wagon <= 1; wagon++) {
                for (int what = 0; what <= 7; what++) {
                    x.answers("wagon(" + wagon + ", " + what + ") = " + (what == 1 ? 1 : 0));
                }
            }
            for (int mile = 1; mile <= 4; mile++) {
                x.answers("mile(" + mile + ", 1) = NOT_FOUND; mile(" + mile + ", 2) = 0; mile(" + mile + ", 3) = 0");
            }
            // Of a race that has not begun to move, and of one that is over.
            new Wagons().answers("again() = 10; count(7) = 2; count(13) = 1; again() = 10; count(7) = 3",
                    "undo() = 1; count(7) = 2");
            Wagons.won().answers("count(7) = 2; count(8) = 1; again() = 1; count(7) = 3; count(8) = 1",
                    "count(2) = NOT_FOUND",
                    "drive(1) = 1; drive(1) = 2; count(8) = 1; count(9) = 1; again() = 1; count(8) = 1",
                    "count(9) = 1");
        });
        sentence("Returns how many miles it has.", () -> {
            Wagons.on(".").answers("again() = 1");
            Wagons.on("i".repeat(14)).answers("again() = 14; again() = 14");
            new Wagons().answers("again() = 10; road('') = NOT_POSSIBLE; again() = 10").pad(".".repeat(15))
                    .answers("road() = NOT_POSSIBLE; again() = 10; count(12) = 15");
        });
    }

    private void set() {
        section("Promise 8: set");
        sentence("Changes a setting.",
                () -> new Wagons().answers("set(0, 1) = 3; count(10) = 1; count(11) = 1; drive(2) = NOT_POSSIBLE",
                        "drive(1) = 1",
                        "set(1, 3) = 1; count(10) = 1; count(11) = 3; token() = 3; set(0, 4) = 1; lose() = 2",
                        "drive(4) = 5",
                        "again() = 10; count(10) = 4; count(11) = 3; road('..') = 2; count(10) = 4; count(11) = 3"));
        sentence("`what`: 0 or 1", () -> {
            Wagons x = new Wagons();
            x.answers("set(-1, 2) = INVALID_ARGUMENT; set(0, 2) = 3; set(1, 2) = 1; set(2, 2) = INVALID_ARGUMENT");
            refusesOutside(x, "set(#, 1)", 0, 1);
            x.answers("count(10) = 2; count(11) = 2; count(13) = 2");
        });
        sentence("`value`: a value in its range", () -> {
            Wagons x = new Wagons();
            x.answers("set(0, 0) = INVALID_ARGUMENT; set(0, 1) = 3; set(0, 2) = 1; set(0, 3) = 2; set(0, 4) = 3",
                    "set(0, 5) = INVALID_ARGUMENT; set(1, 0) = INVALID_ARGUMENT; set(1, 1) = 1; set(1, 2) = 1",
                    "set(1, 3) = 2",
                    "set(1, 4) = INVALID_ARGUMENT");
            refusesOutside(x, "set(0, #)", 1, 4);
            refusesOutside(x, "set(1, #)", 1, 3);
            x.answers("count(10) = 4; count(11) = 3; count(13) = 4");
        });
        sentence("Returns the value before; INVALID_ARGUMENT.", () -> {
            new Wagons().answers("set(0, 4) = 3; set(0, 5) = INVALID_ARGUMENT; set(0, 4) = 4; set(0, 1) = 4",
                    "undo() = 2",
                    "set(0, 2) = 4; set(1, 2) = 1; set(1, 4) = INVALID_ARGUMENT; set(1, 1) = 2",
                    "set(2, 0) = INVALID_ARGUMENT");
            // Also when the race is over, and while a turn is lost.
            Wagons.won().answers("set(0, 1) = 3; set(1, 3) = 1; count(2) = 0; again() = 1; token() = 3",
                    "set(1, 1) = 3",
                    "wagon(1, 2) = 3; lose() = 2");
        });
    }
}
