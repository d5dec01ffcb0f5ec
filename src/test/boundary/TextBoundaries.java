/** The promises 9 to 14: the pad, and what is read from it. */
final class TextBoundaries extends Boundaries {
    @Override
    void tests() {
        append();
        clear();
        fault();
        road();
        race();
        why();
        whyReasons();
    }

    private void append() {
        section("Promise 9: append");
        sentence("Appends a character to the pad.",
                () -> new Wagons().answers("append(49) = 1; append(50) = 2; append(116) = 3; race() = 3",
                        "wagon(0, 0) = 1",
                        "wagon(1, 0) = 3; wagon(1, 2) = 1; append(46) = 1; append(109) = 2; road() = 2",
                        "mile(2, 0) = 1"));
        sentence("`code`: the character code, 33 to 126", () -> {
            Wagons x = new Wagons();
            x.answers("append(32) = INVALID_ARGUMENT; append(33) = 1; append(126) = 2",
                    "append(127) = INVALID_ARGUMENT");
            refusesOutside(x, "append(#)", 33, 126);
            x.answers("append(10) = INVALID_ARGUMENT; append(128) = INVALID_ARGUMENT; append(302) = INVALID_ARGUMENT",
                    "append(0) = INVALID_ARGUMENT; append(65582) = INVALID_ARGUMENT; count(12) = 2; clear() = 2");
            for (int code = 33; code <= 126; code++) {
                x.answers("append(" + code + ") = 1; clear() = 1");
            }
        });
        sentence("Returns the length of the pad then; INVALID_ARGUMENT; "
                + "LIMIT_REACHED if it has 60 characters.", () -> {
            Wagons x = new Wagons();
            for (int length = 1; length <= 60; length++) {
                x.answers("append(" + (32 + length) + ") = " + length);
            }
            x.answers("append(33) = LIMIT_REACHED; append(126) = LIMIT_REACHED; append(32) = INVALID_ARGUMENT",
                    "count(12) = 60; clear() = 60; append(33) = 1");
        });
    }

    private void clear() {
        section("Promise 10: clear");
        sentence("Empties the pad.",
                () -> new Wagons().answers("append(109) = 1; clear() = 1; count(12) = 0; fault(0) = 0; fault(1) = 0",
                        "road() = NOT_POSSIBLE; append(46) = 1; road() = 1; mile(1, 0) = 0; clear() = 0",
                        "count(13) = 1"));
        sentence("Returns the length that it had.", () -> {
            for (int length : new int[] {0, 1, 59, 60}) {
                new Wagons().padMore("~".repeat(length)).answers("clear() = " + length + "; clear() = 0");
            }
            Wagons full = new Wagons().pad("~".repeat(60));
            full.answers("append(33) = LIMIT_REACHED; clear() = 60; clear() = 0");
            full.answers("road('m') = 1; clear() = 0; race('1') = 1; clear() = 0; race('x') = NOT_POSSIBLE",
                    "clear() = 1");
        });
    }

    private void fault() {
        section("Promise 11: fault");
        sentence("Returns the fault of the pad.",
                () -> new Wagons().answers("fault(0) = 0; fault(1) = 0; append(46) = 1; fault(0) = NOT_FOUND",
                        "fault(1) = 0",
                        "append(120) = 2; fault(0) = 1; fault(1) = 0; append(120) = 3; fault(0) = 1",
                        "count(12) = 3; clear() = 3",
                        "fault(0) = 0; append(116) = 1; fault(0) = 0; fault(1) = NOT_FOUND; count(13) = 0"));
        sentence("`way`: 0 if it is read as a road, 1 if it is read as turns", () -> {
            Wagons x = new Wagons().pad("..1");
            x.answers("fault(-1) = INVALID_ARGUMENT; fault(0) = 2; fault(1) = 0; fault(2) = INVALID_ARGUMENT");
            refusesOutside(x, "fault(#)", 0, 1);
            refusesOutside(new Wagons(), "fault(#)", 0, 1);
        });
        sentence("Returns the fault; INVALID_ARGUMENT; NOT_FOUND if it has none.", () -> {
            new Wagons().answers("fault(0) = 0; fault(1) = 0; fault(2) = INVALID_ARGUMENT");
            new Wagons().pad("s".repeat(13)).answers("fault(0) = NOT_FOUND; append(115) = 14; fault(0) = NOT_FOUND",
                    "append(115) = 15; fault(0) = 14; append(115) = 16; fault(0) = 14");
            new Wagons().pad("-".repeat(59)).answers("fault(1) = NOT_FOUND; append(45) = 60; fault(1) = NOT_FOUND",
                    "append(45) = LIMIT_REACHED; fault(1) = NOT_FOUND; fault(0) = 0");
            new Wagons().pad("-".repeat(59)).answers("append(46) = 60; fault(1) = 59; fault(0) = 0");
        });
    }

    private void road() {
        section("Promise 12: road");
        sentence("Begins a race on the road of the pad, and empties the pad.", () -> {
            Wagons x = new Wagons();
            x.answers("drive(3) = 3; token() = 1; road('.msi') = 4; count(12) = 0; count(0) = 4; mile(1, 0) = 0",
                    "mile(2, 0) = 1; mile(3, 0) = 2; mile(4, 0) = 3; count(1) = 0; count(3) = 0; count(7) = 2");
            for (int wagon = 0; wagon <= 1; wagon++) {
                for (int what = 0; what <= 7; what++) {
                    x.answers("wagon(" + wagon + ", " + what + ") = " + (what == 1 ? 1 : 0));
                }
            }
            // A short road behind a long one, a long one behind a short one: nothing is left of the one before.
            x.answers("road('" + "m".repeat(14) + "') = 14; count(4) = 14; road('i') = 1; count(4) = 0",
                    "count(6) = 1",
                    "mile(2, 0) = INVALID_ARGUMENT; road('" + "s".repeat(13) + ".') = 14; count(4) = 0",
                    "count(5) = 13",
                    "count(6) = 0; mile(14, 0) = 0; drive(1) = 14; road('..') = 2; mile(2, 2) = 0; undo() = 3",
                    "mile(14, 0) = 0; mile(14, 2) = 1; count(12) = 0; undo() = 2; undo() = 1; count(0) = 1",
                    "undo() = 0",
                    "count(0) = 14; count(4) = 14");
            Wagons.won().answers("road('m') = 1; count(2) = NOT_FOUND; count(8) = 1; count(7) = 3; drive(1) = 1");
        });
        sentence("Returns how many miles it has; NOT_POSSIBLE if the pad has a fault, read as a road.", () -> {
            for (int miles = 1; miles <= 14; miles++) {
                new Wagons().pad("i".repeat(miles)).answers("road() = " + miles + "; count(0) = " + miles + "",
                        "count(6) = " + miles);
            }
            for (int signs : new int[] {0, 15, 16, 60}) {
                new Wagons().pad("i".repeat(signs)).answers("road() = NOT_POSSIBLE; count(12) = " + signs
                        + "; count(0) = 10; count(6) = 0; count(7) = 1; count(13) = 0");
            }
            new Wagons().pad("x").answers("road() = NOT_POSSIBLE; count(12) = 1");
            new Wagons().pad("i".repeat(13) + "t").answers("road() = NOT_POSSIBLE; count(12) = 14; fault(0) = 13");
        });
    }

    private void race() {
        section("Promise 13: race");
        sentence("Makes the turns of the pad, one after the other, up to the first one that is not possible, and "
                + "empties the pad.", () -> {
            new Wagons().answers("race('3') = 1; count(12) = 0; count(3) = 1; race('3t-12') = 5; count(3) = 6",
                    "wagon(1, 0) = 7",
                    "wagon(0, 0) = 5; wagon(0, 6) = 1; wagon(0, 4) = 0; wagon(1, 4) = 1; count(12) = 0");
            // The first, one in the middle, and the last one are not possible; nothing behind it is made.
            new Wagons().answers("race('-123') = 0; count(3) = 0; count(12) = 0; race('12-3') = 2; count(3) = 2",
                    "count(12) = 0",
                    "race('114') = 2; count(3) = 4; wagon(0, 0) = 2; count(12) = 0");
            new Wagons().answers("race('4t1') = 0; wagon(0, 1) = 1; wagon(0, 0) = 0");
            // To the end, and behind it.
            Wagons.on(".").answers("race('12') = 2; count(2) = 1; again() = 1; race('2') = 1; count(2) = 0",
                    "race('1') = 0");
            Wagons.on(".").answers("race('211') = 1; count(2) = 0; wagon(1, 0) = 0; count(12) = 0");
            // Best turns and greed, with lost turns among them.
            Wagons.on(".", 1, 2).answers("race('bbbbb') = 5; count(2) = 0; wagon(1, 4) = 2; why(0) = NOT_FOUND");
            Wagons.on("....", 2, 2).answers("race('tgggggg') = 7; wagon(1, 4) = 2; wagon(0, 0) = 5; count(2) = 0");
            Wagons.on(FOURTEEN_INNS, 1, 3).pad(SIXTY_TURNS).answers("count(12) = 60; race() = 60; count(3) = 60",
                    "count(12) = 0",
                    "wagon(0, 0) = 11; wagon(1, 0) = 5; wagon(0, 3) = 30; wagon(1, 3) = 30; wagon(0, 4) = 10",
                    "wagon(1, 4) = 19",
                    "wagon(0, 6) = 9; wagon(1, 6) = 6; wagon(0, 2) = 3; count(2) = NOT_FOUND");
        });
        sentence("This is one change, also if none is made.",
                () -> new Wagons().answers("count(13) = 0; race('123t') = 4; count(13) = 1; race('1') = 0",
                        "count(13) = 2",
                        "undo() = 1; count(3) = 4; undo() = 0; count(3) = 0; race('-') = 0; count(13) = 1",
                        "race('x') = NOT_POSSIBLE",
                        "count(13) = 1; race('1') = 1; count(13) = 2; race('4') = 0; race('4') = 0",
                        "race('4') = 0; count(13) = 4",
                        "undo() = 3; undo() = 2; undo() = 1; count(3) = 1; undo() = 0; count(3) = 0",
                        "undo() = NOT_POSSIBLE"));
        sentence("Returns how many turns are made; NOT_POSSIBLE if the pad has a fault, read as turns.", () -> {
            new Wagons().answers("race('') = NOT_POSSIBLE; count(13) = 0; race('1') = 1; race('-') = 0",
                    "race('12') = 2");
            new Wagons().answers("race('x1') = NOT_POSSIBLE; count(12) = 2; race('1x') = NOT_POSSIBLE",
                    "count(12) = 2; count(3) = 0",
                    "race('0') = NOT_POSSIBLE; race('5') = NOT_POSSIBLE; race('.') = NOT_POSSIBLE; count(13) = 0",
                    "count(12) = 1");
            Wagons.on(FOURTEEN_INNS, 1, 3).pad(SIXTY_TURNS).answers("race() = 60");
            Wagons.on(FOURTEEN_INNS, 1, 3).pad(SIXTY_TURNS.substring(0, 59) + "-").answers("race() = 59",
                    "count(3) = 59");
            Wagons.on(FOURTEEN_INNS, 1, 3).pad(SIXTY_TURNS.substring(0, 59) + "x").answers("race() = NOT_POSSIBLE",
                    "count(3) = 0; count(12) = 60; fault(1) = 59");
            // A fault stops it also when the race is over, and a race that is over is no fault.
            Wagons.won().answers("race('x') = NOT_POSSIBLE; count(12) = 1; race('') = NOT_POSSIBLE",
                    "race('g') = 0; count(13) = 3");
        });
    }

    private void why() {
        section("Promise 14: why");
        sentence("Tells about the turn at which the latest call of race() that returned no error stopped.", () -> {
            new Wagons().answers("why(0) = NOT_FOUND; race('12-') = 2; why(0) = 2; why(1) = 3",
                    "race('x') = NOT_POSSIBLE",
                    "why(0) = 2; why(1) = 3; race('') = NOT_POSSIBLE; why(0) = 2; race('14') = 1; why(0) = 1",
                    "why(1) = 4",
                    "drive(4) = NOT_POSSIBLE; drive(1) = 4; lose() = NOT_POSSIBLE; why(0) = 1; why(1) = 4",
                    "race('1') = 1",
                    "why(0) = NOT_FOUND; why(1) = NOT_FOUND; race('x') = NOT_POSSIBLE; why(0) = NOT_FOUND");
        });
        sentence("(This is not a part of what is undone, or restored.)", () -> {
            new Wagons().answers("save() = 0; race('1-') = 1; undo() = 0; why(0) = 1; why(1) = 3; restore() = 0",
                    "why(0) = 1",
                    "why(1) = 3; undo() = 0; why(1) = 3; again() = 10; why(0) = 1; race('1') = 1; why(0) = NOT_FOUND",
                    "undo() = 1; why(0) = NOT_FOUND; restore() = 0; why(1) = NOT_FOUND");
            new Wagons().answers("race('-') = 0; save() = 0; race('1') = 1; restore() = 0; why(0) = NOT_FOUND",
                    "undo() = 2",
                    "why(0) = NOT_FOUND; road('.') = 1; why(0) = NOT_FOUND; race('4') = 0; road('.') = 1",
                    "why(1) = 4; clear() = 0",
                    "why(0) = 0");
        });
        sentence("Returns the number; INVALID_ARGUMENT; "
                + "NOT_FOUND if there was no such call, or all its turns were made.",
                () -> {
                    new Wagons().answers("why(0) = NOT_FOUND; why(1) = NOT_FOUND; why(2) = INVALID_ARGUMENT",
                            "why(-1) = INVALID_ARGUMENT; race('x') = NOT_POSSIBLE; why(0) = NOT_FOUND",
                            "why(1) = NOT_FOUND",
                            "race('-') = 0; why(0) = 0; why(1) = 3; why(2) = INVALID_ARGUMENT; race('1') = 1",
                            "why(0) = NOT_FOUND",
                            "why(1) = NOT_FOUND; why(2) = INVALID_ARGUMENT");
                    Wagons.on(".").answers("race('2') = 1; why(0) = NOT_FOUND; race('2') = 0; why(0) = 0",
                            "why(1) = 1");
                });
    }

    private void whyReasons() {
        sentence("`what`: 0: its position in the pad; "
                + "1: why it was not possible, the first of these that is so: 1: the "
                + "race was over; 2: the wagon lost this turn; 3: it did not lose this turn (\"-\"); "
                + "4: the miles were "
                + "above PACE; 5: it had no token", () -> {
            Wagons x = new Wagons();
            x.answers("race('-') = 0; why(-1) = INVALID_ARGUMENT; why(0) = 0; why(1) = 3; why(2) = INVALID_ARGUMENT");
            refusesOutside(x, "why(#)", 0, 1);
            // The position: the first and the last one of a full pad.
            Wagons.on(FOURTEEN_INNS, 1, 3).pad(SIXTY_TURNS).answers("race() = 60; why(0) = NOT_FOUND",
                    "why(1) = NOT_FOUND");
            Wagons.on(FOURTEEN_INNS, 1, 3).pad(SIXTY_TURNS.substring(0, 59) + "-").answers("race() = 59",
                    "why(0) = 59; why(1) = 3");
            Wagons.on(FOURTEEN_INNS, 1, 3).pad("2" + SIXTY_TURNS.substring(1)).answers("race() = 0; why(0) = 0",
                    "why(1) = 4");
            // 1: the race was over, also where another reason is so.
            for (String sign : new String[] {"1", "4", "t", "b", "g", "-"}) {
                reason(".", 3, "2", sign, 1);
            }
            for (String sign : new String[] {"1", "4", "t", "b", "g", "-"}) {
                Wagons.on(".", 3, 3).answers("race('t-2" + sign + "') = 3; wagon(1, 2) = 2; why(0) = 3; why(1) = 1");
            }
            reason(".", 1, "t-11", "t", 1);
            // 2: the wagon lost this turn, also above PACE and without a token; the other signs are possible then.
            reason("....", 3, "t", "1", 2);
            reason("....", 3, "t", "4", 2);
            reason("....", 3, "t", "t", 2);
            reason("....", 3, "t-1t", "t", 2);
            for (String sign : new String[] {"-", "b", "g"}) {
                new Wagons().answers("race('t" + sign + "') = 2; wagon(1, 4) = 1; why(0) = NOT_FOUND",
                        "why(1) = NOT_FOUND");
            }
            // 3: it did not lose this turn: at first, and after the last one that it lost.
            reason("....", 3, "", "-", 3);
            reason("....", 3, "t-", "-", 3);
            reason("m...", 3, "11-1", "-", 3);
            // 4: above PACE, the last one that is not, and without a token.
            for (int pace = 1; pace <= 3; pace++) {
                reason("....", pace, "t-", String.valueOf(pace + 1), 4);
                Wagons.on("....", pace, 1).answers("race('t-" + pace + "') = 3; why(1) = NOT_FOUND");
            }
            Wagons.on("....", 4, 1).answers("race('4') = 1; why(1) = NOT_FOUND");
            // 5: it had no token.
            reason("....", 3, "t-", "t", 5);
            Wagons.on("i...").answers("race('t-1t-t') = 5; why(0) = 5; why(1) = 5");
            Wagons.on(".i..").answers("race('t-1t-2t') = 6; why(0) = 6; why(1) = 5");
        });
    }

    /** The turns are possible on this road, the sign behind them is not, for this reason. */
    private static void reason(String road, int pace, String turns, String sign, int reason) {
        Wagons.on(road, pace, 1).pad(turns + sign + "1").answers("race() = " + turns.length() + "",
                "why(0) = " + turns.length()
                + "; why(1) = " + reason);
    }
}
