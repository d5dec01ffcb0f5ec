/** The promises 15 to 23: looks, and what would be. */
final class LookBoundaries extends Boundaries {
    private static final String PLAIN_14 = ".".repeat(14);

    @Override
    void tests() {
        mile();
        wagon();
        wagonNumbers();
        ends();
        worth();
        worthOf();
        bestTurn();
        count();
        countNumbers();
        speed();
        ended();
    }

    private void mile() {
        section("Promise 15: mile");
        sentence("Returns a property of a mile.",
                () -> Wagons.on("s.").answers("mile(1, 0) = 2; mile(2, 0) = 0; drive(1) = 2",
                        "mile(1, 1) = NOT_FOUND; mile(2, 1) = 0",
                        "mile(1, 2) = 1; mile(2, 2) = 1; mile(1, 3) = 0; mile(2, 3) = 0; drive(1) = 3",
                        "mile(1, 3) = 1",
                        "mile(2, 3) = 0; mile(2, 1) = 0"));
        sentence("`mile`: 1 to how many the road has", () -> {
            for (int miles : new int[] {1, 2, 10, 13, 14}) {
                Wagons x = Wagons.on("m".repeat(miles - 1) + "i");
                x.answers("mile(0, 0) = INVALID_ARGUMENT; mile(" + miles + ", 0) = 3",
                        "mile(" + (miles + 1) + ", 0) = INVALID_ARGUMENT",
                        "mile(" + (miles + 1) + ", 1) = INVALID_ARGUMENT; mile(0, 1) = INVALID_ARGUMENT",
                        "mile(" + (miles + 1) + ", 2) = INVALID_ARGUMENT; mile(0, 3) = INVALID_ARGUMENT");
                refusesOutside(x, "mile(#, 0)", 1, miles);
                refusesOutside(x, "mile(#, 3)", 1, miles);
            }
            // After a longer road, and at the end, where a wagon is.
            Wagons.on(PLAIN_14).answers("mile(14, 0) = 0; road('.') = 1; mile(1, 0) = 0",
                    "mile(2, 0) = INVALID_ARGUMENT",
                    "drive(2) = 2; mile(2, 1) = INVALID_ARGUMENT; undo() = 2; undo() = 1; mile(14, 0) = 0");
        });
        sentence("`what`: 0: what it is, 0 to 3; 1: the wagon on it, NOT_FOUND without one; "
                + "2 and 3: how often the wagon 0, "
                + "and 1, came to stand on it in this race (also if it rolled on from there)", () -> {
            Wagons x = Wagons.on(".msi");
            x.answers("mile(1, -1) = INVALID_ARGUMENT; mile(1, 0) = 0; mile(2, 0) = 1; mile(3, 0) = 2",
                    "mile(4, 0) = 3",
                    "mile(1, 1) = NOT_FOUND; mile(1, 2) = 0; mile(1, 3) = 0; mile(1, 4) = INVALID_ARGUMENT");
            refusesOutside(x, "mile(1, #)", 0, 3);
            refusesOutside(x, "mile(4, #)", 0, 3);
            // Both wagons at the place 0, one after the other on the first and the last mile, and one at the end.
            Wagons.on("..").answers("mile(1, 1) = NOT_FOUND; drive(1) = 1; mile(1, 1) = 0",
                    "mile(2, 1) = NOT_FOUND; mile(1, 2) = 1",
                    "drive(1) = 2; mile(1, 1) = 0; mile(2, 1) = 1; mile(2, 3) = 1; mile(1, 3) = 0; drive(1) = 3",
                    "mile(1, 1) = NOT_FOUND; mile(2, 1) = 1; mile(1, 2) = 1; mile(2, 2) = 0");
            // By rolling on, by driving on from there, and in the next race.
            Wagons.on("ss.").answers("drive(1) = 3; mile(1, 2) = 1; mile(2, 2) = 1; mile(3, 2) = 1",
                    "mile(1, 1) = NOT_FOUND",
                    "mile(2, 1) = NOT_FOUND; mile(3, 1) = 0; drive(2) = 4; mile(1, 3) = 0; mile(2, 3) = 1",
                    "mile(3, 3) = 0",
                    "again() = 3; mile(1, 2) = 0; mile(2, 2) = 0; mile(3, 2) = 0; mile(2, 3) = 0",
                    "mile(3, 1) = NOT_FOUND",
                    "drive(2) = 3; mile(1, 2) = 0; mile(2, 2) = 1; undo() = 3; mile(2, 2) = 0; undo() = 2",
                    "mile(1, 2) = 1");
            // To stay on a mile by a lost turn and by the token is not to come there.
            new Wagons().answers("drive(1) = 1; token() = 1; lose() = 0; drive(2) = 3; token() = 1",
                    "mile(1, 2) = 1; mile(3, 3) = 1");
        });
        sentence("Returns the number; INVALID_ARGUMENT.",
                () -> new Wagons().answers("mile(10, 3) = 0; mile(11, 3) = INVALID_ARGUMENT",
                        "mile(10, 4) = INVALID_ARGUMENT",
                        "mile(0, 0) = INVALID_ARGUMENT; mile(1, -1) = INVALID_ARGUMENT",
                        "mile(MIN, MAX) = INVALID_ARGUMENT",
                        "mile(1, 0) = 0; mile(1, 1) = NOT_FOUND"));
    }

    private void wagon() {
        section("Promise 16: wagon");
        sentence("Returns a property of a wagon.",
                () -> new Wagons().answers("drive(3) = 3; wagon(0, 0) = 3; wagon(1, 0) = 0; wagon(0, 3) = 1",
                        "wagon(1, 3) = 0",
                        "drive(3) = 4; wagon(0, 0) = 3; wagon(1, 0) = 4; wagon(1, 5) = 1; wagon(0, 5) = 0",
                        "wagon(1, 3) = 1"));
        sentence("`wagon`: 0 or 1", () -> {
            Wagons x = new Wagons();
            x.answers("wagon(-1, 0) = INVALID_ARGUMENT; wagon(0, 0) = 0; wagon(1, 0) = 0",
                    "wagon(2, 0) = INVALID_ARGUMENT");
            refusesOutside(x, "wagon(#, 0)", 0, 1);
            refusesOutside(x, "wagon(#, 7)", 0, 1);
        });
        sentence("Returns the number; INVALID_ARGUMENT.",
                () -> new Wagons().answers("wagon(0, 7) = 0; wagon(1, 7) = 0; wagon(0, 8) = INVALID_ARGUMENT",
                        "wagon(1, 8) = INVALID_ARGUMENT; wagon(1, -1) = INVALID_ARGUMENT",
                        "wagon(2, 7) = INVALID_ARGUMENT",
                        "wagon(MIN, MIN) = INVALID_ARGUMENT; wagon(MAX, MAX) = INVALID_ARGUMENT; wagon(1, 1) = 1"));
    }

    private void wagonNumbers() {
        sentence("`what`: 0: its place; 1: 1 if it has its token, otherwise 0; 2: how many turns it loses; "
                + "and in this race "
                + "3: turns that it had, lost ones, too; 4: turns that it lost; "
                + "5: leaps, also those when it rolled on; 6: "
                + "tokens that it used; 7: how often it rolled on", () -> {
            Wagons x = new Wagons();
            for (int wagon = 0; wagon <= 1; wagon++) {
                x.answers("wagon(" + wagon + ", -1) = INVALID_ARGUMENT; wagon(" + wagon + ", 8) = INVALID_ARGUMENT");
                refusesOutside(x, "wagon(" + wagon + ", #)", 0, 7);
            }
            numbersAre(new Wagons(), 0, 0, 1, 0, 0, 0, 0, 0, 0);
            // A road on which one drive is all of it.
            x = Wagons.on("ssssssssssssss");
            x.answers("drive(1) = 15");
            numbersAre(x, 0, 15, 1, 0, 1, 0, 0, 0, 14);
            numbersAre(x, 1, 0, 1, 0, 0, 0, 0, 0, 0);
            // Leaps: by driving, by rolling on, to the end; turns: driven, lost, with the token.
            x = Wagons.on(".s.s..", 3, 3);
            x.answers("drive(1) = 1; drive(1) = 3; token() = 3; lose() = 2; drive(1) = 5; lose() = 1");
            numbersAre(x, 0, 5, 0, 0, 3, 0, 1, 1, 2);
            numbersAre(x, 1, 3, 1, 1, 3, 2, 1, 0, 1);
            x.answers("drive(1) = 6; lose() = 0; drive(1) = 7");
            numbersAre(x, 0, 7, 0, 0, 5, 0, 1, 1, 2);
            numbersAre(x, 1, 3, 1, 0, 4, 3, 1, 0, 1);
            x.answers("again() = 6");
            numbersAre(x, 0, 0, 1, 0, 0, 0, 0, 0, 0);
            numbersAre(x, 1, 0, 1, 0, 0, 0, 0, 0, 0);
            // The token used twice, with one at an inn between.
            x = Wagons.on("i...", 1, 1);
            x.answers("race('t-1t-1t') = 7");
            numbersAre(x, 0, 1, 0, 0, 4, 1, 0, 2, 0);
            numbersAre(x, 1, 2, 0, 1, 3, 1, 1, 1, 0);
        });
    }

    private static void numbersAre(Wagons x, int wagon, int... numbers) {
        for (int what = 0; what < numbers.length; what++) {
            x.answers("wagon(" + wagon + ", " + what + ") = " + numbers[what]);
        }
    }

    private void ends() {
        section("Promise 17: ends");
        sentence("Tells where a drive would end.", () -> {
            for (String turns : new String[] {"", "1", "2", "3", "4", "11", "13", "31", "44", "t-", "t-1", "t"}) {
                for (String road : new String[] {".", "s", "..", "s.", "ss.", "s.s", ".s..", "..s.m", "i.ss.i",
                    PLAIN_14}) {
                    for (int miles = 0; miles <= 5; miles++) {
                        endsLikeDrive(road, turns, miles);
                    }
                }
            }
        });
        sentence("`miles`: as for drive()", () -> {
            Wagons x = Wagons.on(PLAIN_14, 4, 1);
            x.answers("ends(0) = INVALID_ARGUMENT; ends(1) = 1; ends(4) = 4; ends(5) = INVALID_ARGUMENT");
            refusesOutside(x, "ends(#)", 1, 4);
        });
        sentence("Returns the place where the wagon on turn would be; the errors of drive().", () -> {
            Wagons.on(PLAIN_14).answers("ends(1) = 1; ends(3) = 3; ends(4) = NOT_POSSIBLE",
                    "ends(5) = INVALID_ARGUMENT; set(0, 1) = 3",
                    "ends(1) = 1; ends(2) = NOT_POSSIBLE; set(0, 4) = 1; ends(4) = 4; token() = 1",
                    "ends(1) = NOT_POSSIBLE",
                    "ends(4) = NOT_POSSIBLE; ends(0) = INVALID_ARGUMENT; lose() = 0; ends(4) = 4; drive(2) = 2",
                    "ends(1) = 1",
                    "ends(2) = 3; count(13) = 4; wagon(1, 0) = 0");
            Wagons.on("s".repeat(14)).answers("ends(1) = 15; ends(3) = 15; count(2) = NOT_FOUND");
            Wagons.won().answers("ends(1) = NOT_POSSIBLE; ends(4) = NOT_POSSIBLE; ends(0) = INVALID_ARGUMENT",
                    "undo() = 1; ends(1) = 1",
                    "ends(2) = 2; ends(3) = 2");
        });
    }

    private static void endsLikeDrive(String road, String turns, int miles) {
        Wagons x = Wagons.on(road, 4, 2).pad(turns);
        x.call("race");
        double told = x.call("ends", miles);
        Report.due("ends(" + miles + ") on " + road + " after " + turns, told, x.call("drive", miles));
    }

    private void worth() {
        section("Promise 18: worth");
        sentence("Returns the worth of the race for the wagon on turn, 1000 added to it.",
                () -> Wagons.on(".", 1, 1).answers("worth(0) = 504; worth(1) = 504; token() = 1; worth(0) = 1497",
                        "worth(1) = 1497",
                        "lose() = 0; worth(1) = 502; worth(0) = 502; drive(1) = 1; worth(0) = 1499",
                        "worth(1) = 1499"));
        sentence("`way`: 0: told by going into each turn, and what was told once is kept; "
                + "1: told for all that could be, "
                + "again and again, until nothing becomes another number", () -> {
            for (Wagons x : new Wagons[] {new Wagons(), Wagons.on("."), Wagons.on(FOURTEEN_INNS, 1, 3), Wagons.won()}) {
                refusesOutside(x, "worth(#)", 0, 1);
                Report.due("worth(1)", x.call("worth", 1), x.call("worth", 0));
                x.answers("worth(-1) = INVALID_ARGUMENT; worth(2) = INVALID_ARGUMENT");
            }
            // What was kept is not told for another road, other settings, or what is undone and restored.
            for (int way = 0; way <= 1; way++) {
                String worth = "worth(" + way + ") = ";
                Wagons.on(".", 1, 1).answers(worth + "504; set(1, 2) = 1; " + worth + "1495; set(0, 2) = 1",
                        "" + worth + "1499",
                        "undo() = 3; " + worth + "1495; save() = 0; undo() = 2; " + worth + "504; restore() = 0",
                        "" + worth + "1495",
                        "road('s') = 1; " + worth + "1499; road('.') = 1; " + worth + "1495; again() = 1",
                        "" + worth + "1495",
                        "undo() = 3; undo() = 2; " + worth + "1499");
                // Roads that differ by their number of miles, by their last, and by their first mile alone.
                Wagons.on(".").answers(worth + "1499; road('...') = 3; " + worth + "504; road('..') = 2",
                        "" + worth + "1499");
                Wagons.on("s".repeat(14), 1, 1).answers(worth + "1499; road('" + "s".repeat(13) + ".') = 14",
                        "" + worth + "504",
                        "road('" + "s".repeat(14) + "') = 14; " + worth + "1499",
                        "road('." + "s".repeat(13) + "') = 14",
                        worth + "504; undo() = 3; " + worth + "1499; undo() = 2; " + worth + "504");
            }
        });
        sentence("Returns 1000 and the worth (the same for both; the number 500, where the race is over); "
                + "INVALID_ARGUMENT.",
                () -> {
                    Wagons.on(".").answers("worth(0) = 1499; worth(1) = 1499; drive(2) = 2; worth(0) = 500",
                            "worth(1) = 500",
                            "worth(2) = INVALID_ARGUMENT; worth(-1) = INVALID_ARGUMENT; undo() = 1",
                            "worth(1) = 1499; worth(0) = 1499");
                    Wagons.on(".").answers("drive(1) = 1; worth(1) = 1499; drive(1) = 2; count(2) = 1",
                            "worth(0) = 500; worth(1) = 500");
                    Wagons.on(".", 3, 3).answers("token() = 3; lose() = 2; drive(2) = 2; worth(0) = 500",
                            "worth(1) = 500",
                            "again() = 1; worth(0) = 1499");
                });
    }

    private void worthOf() {
        section("Promise 19: worthOf");
        sentence("Returns the worth that a turn would have for the wagon on turn, 1000 added to it.",
                () -> Wagons.on(".", 4, 1).answers("worthOf(1) = 502; worthOf(2) = 1499; worthOf(3) = 1499",
                        "worthOf(4) = 1499",
                        "worthOf(5) = 1497; drive(1) = 1; worthOf(1) = 1499; worthOf(4) = 1499; count(3) = 1"));
        sentence("`turn`: 1 to 4: a drive of so many miles; 5: the token", () -> {
            Wagons x = Wagons.on(".", 4, 1);
            x.answers("worthOf(0) = INVALID_ARGUMENT; worthOf(1) = 502; worthOf(4) = 1499; worthOf(5) = 1497",
                    "worthOf(6) = INVALID_ARGUMENT");
            refusesOutside(x, "worthOf(#)", 1, 5);
            refusesOutside(Wagons.won(), "worthOf(#)", 1, 5);
        });
        sentence("Returns 1000 and the worth of which the wagon can be sure with this turn; INVALID_ARGUMENT; "
                + "NOT_POSSIBLE as "
                + "for drive() and token().", () -> {
            for (int pace = 1; pace <= 3; pace++) {
                Wagons x = Wagons.on("sss", pace, 1);
                x.answers("worthOf(" + pace + ") = 1499; worthOf(" + (pace + 1) + ") = NOT_POSSIBLE",
                        "worthOf(5) = 1497");
            }
            // The token that is left, that is used, and that is back.
            Wagons.on("i.", 1, 1).answers("token() = 1; worthOf(5) = NOT_POSSIBLE; worthOf(1) = NOT_POSSIBLE",
                    "lose() = 0",
                    "worthOf(5) = NOT_POSSIBLE; drive(1) = 1; token() = 1; lose() = 0; drive(1) = 2",
                    "worthOf(1) = 1499",
                    "worthOf(5) = 1497; token() = 1; worthOf(1) = NOT_POSSIBLE");
            // By 3 turns at most: with 2 and with 3 more the other wagon loses 3.
            for (int stop = 2; stop <= 3; stop++) {
                Wagons.on("m..", 1, stop).answers("drive(1) = 1; worthOf(5) = 1493; token() = 3; worth(0) = 506");
            }
            Wagons.won().answers("worthOf(1) = NOT_POSSIBLE; worthOf(5) = NOT_POSSIBLE",
                    "worthOf(0) = INVALID_ARGUMENT",
                    "worthOf(6) = INVALID_ARGUMENT; undo() = 1; worthOf(1) = 502");
        });
    }

    private void bestTurn() {
        section("Promise 20: bestTurn");
        sentence("Tells the best turn.",
                () -> Wagons.on(".", 1, 2).answers("bestTurn() = 5; count(3) = 0; best() = 5; bestTurn() = 0",
                        "best() = 0; bestTurn() = 1",
                        "best() = 1; bestTurn() = 0; best() = 0; bestTurn() = 1; best() = 1",
                        "bestTurn() = NOT_POSSIBLE"));
        sentence("Returns the miles, 5 for the token, 0 for a lost turn; NOT_POSSIBLE if the race is over.", () -> {
            Wagons.on("s", 4, 1).answers("bestTurn() = 1");
            Wagons.on(".", 4, 1).answers("bestTurn() = 2");
            Wagons.on("..", 4, 1).answers("bestTurn() = 3");
            Wagons.on("...", 4, 1).answers("bestTurn() = 4; drive(4) = 4; bestTurn() = NOT_POSSIBLE; undo() = 3",
                    "bestTurn() = 4");
            Wagons.on(".", 1, 1).answers("bestTurn() = 5; token() = 1; bestTurn() = 0; lose() = 0; bestTurn() = 1");
            Wagons.on(".", 3, 3).answers("token() = 3; lose() = 2; drive(2) = 2; bestTurn() = NOT_POSSIBLE",
                    "again() = 1; bestTurn() = 2");
        });
    }

    private void count() {
        section("Promise 21: count");
        sentence("Returns a number.", () -> {
            Wagons x = Wagons.on("mm.siiims", 4, 2);
            x.answers("drive(3) = 3; append(113) = 1");
            int[] numbers = {9, 1, -4, 1, 3, 2, 3, 2, 0, 0, 4, 2, 1, 4};
            for (int what = 0; what < numbers.length; what++) {
                x.answers("count(" + what + ") = " + numbers[what]);
            }
        });
        sentence("Returns the number; INVALID_ARGUMENT.",
                () -> new Wagons().answers("count(0) = 10; count(13) = 0; count(14) = INVALID_ARGUMENT",
                        "count(-1) = INVALID_ARGUMENT",
                        "count(15) = INVALID_ARGUMENT; count(MIN) = INVALID_ARGUMENT",
                        "count(MAX) = INVALID_ARGUMENT"));
    }

    private void countNumbers() {
        sentence("`what`: 0: miles of the road; 1: the wagon on turn, NOT_FOUND if the race is over; "
                + "2: the wagon that has "
                + "won, NOT_FOUND if it is not over; 3: turns so far in this race; 4: muddy miles; "
                + "5: steep miles; 6: inns; "
                + "7: races that began so far (the first one, too); 8: races that were won by the wagon 0 so far; "
                + "9: by the "
                + "wagon 1; 10 and 11: the settings; 12: the length of the pad; 13: states in the history", () -> {
            Wagons x = new Wagons();
            x.answers("count(-1) = INVALID_ARGUMENT; count(14) = INVALID_ARGUMENT");
            refusesOutside(x, "count(#)", 0, 13);
            // Miles and their kinds: none, one, and all of 14.
            new Wagons().answers("count(0) = 10; count(4) = 0; count(5) = 0; count(6) = 0; road('m') = 1",
                    "count(0) = 1; count(4) = 1",
                    "road('s') = 1; count(4) = 0; count(5) = 1; road('i') = 1; count(5) = 0; count(6) = 1");
            for (int kind = 1; kind <= 3; kind++) {
                Wagons.on(".msi".substring(kind, kind + 1).repeat(14)).answers("count(0) = 14",
                        "count(" + (3 + kind) + ") = 14",
                        "count(" + (4 + kind % 3) + ") = 0; count(" + (4 + (kind + 1) % 3) + ") = 0");
            }
            // On turn, and won.
            Wagons.on(".", 1, 1).answers("count(1) = 0; count(2) = NOT_FOUND; count(3) = 0; drive(1) = 1",
                    "count(1) = 1; count(3) = 1",
                    "count(2) = NOT_FOUND; drive(1) = 2; count(1) = NOT_FOUND; count(2) = 1; count(3) = 2",
                    "count(9) = 1; count(8) = 0",
                    "again() = 1; count(1) = 0; count(2) = NOT_FOUND; count(3) = 0; count(9) = 1; token() = 1",
                    "lose() = 0",
                    "count(3) = 2; drive(1) = 1; token() = 1; lose() = 0; drive(1) = 2; count(2) = 1",
                    "count(9) = 2; count(3) = 6",
                    "undo() = 3; count(9) = 1; count(2) = NOT_FOUND; count(3) = 5");
            // Races: a new one by again and by road; a change that begins none; what is undone.
            new Wagons().answers("count(7) = 1; again() = 10; count(7) = 2; road('.') = 1; count(7) = 3",
                    "race('2') = 1; count(7) = 3",
                    "count(8) = 1; count(9) = 0; race('2') = 0; count(8) = 1; again() = 1; drive(2) = 2",
                    "count(8) = 2; count(7) = 4",
                    "undo() = 3; count(8) = 1; undo() = 2; count(7) = 3; undo() = 1; count(8) = 1; undo() = 0",
                    "count(8) = 0");
            // The settings from their first to their last value; the pad and the history, empty and full.
            new Wagons().answers("count(10) = 3; count(11) = 1; count(12) = 0; count(13) = 0; set(0, 1) = 3",
                    "set(1, 3) = 1",
                    "count(10) = 1; count(11) = 3; count(13) = 2; set(0, 4) = 1; set(1, 1) = 3; count(10) = 4",
                    "count(11) = 1",
                    "count(13) = 4; again() = 10; count(13) = 4").pad("m".repeat(60))
                    .answers("count(12) = 60; append(33) = LIMIT_REACHED; count(12) = 60; clear() = 60",
                            "count(12) = 0; undo() = 3",
                            "count(13) = 3");
        });
    }

    private void speed() {
        section("Promise 22: speed");
        sentence("Returns how far the wagons come by a turn.",
                () -> new Wagons().answers("drive(3) = 3; speed() = 3; drive(3) = 4; speed() = 3.5; drive(1) = 5",
                        "speed() = 3"));
        sentence("Returns the places of both wagons together, as a double, divided by the turns so far in this race; "
                + "0.0 without any.", () -> {
            Wagons x = new Wagons();
            x.answers("speed() = 0; token() = 1; speed() = 0; lose() = 0; speed() = 0; drive(1) = 1");
            Report.due("speed() of 1 by 3", x.call("speed"), 1.0 / 3.0);
            x.answers("undo() = 2; speed() = 0; drive(2) = 2");
            Report.due("speed() of 2 by 3", x.call("speed"), 2.0 / 3.0);
            x.answers("drive(1) = 1; speed() = 0.75; again() = 10; speed() = 0; drive(1) = 1; speed() = 1",
                    "undo() = 3; speed() = 0");
            // No sign of a 0 below 0, which a comparison does not tell.
            Report.due("1 by speed()", 1.0 / new Wagons().call("speed"), Double.POSITIVE_INFINITY);
            // The most: a whole road by one turn, and the end.
            Wagons.on("s".repeat(14)).answers("drive(1) = 15; speed() = 15; undo() = 1; speed() = 0");
            Wagons.on(".").answers("drive(1) = 1; speed() = 1; drive(1) = 2; speed() = 1.5",
                    "drive(1) = NOT_POSSIBLE; speed() = 1.5",
                    "save() = 2; road('.') = 1; speed() = 0; restore() = 2; speed() = 1.5");
            // Many turns: 16 places by 60 turns.
            x = Wagons.on(FOURTEEN_INNS, 1, 3).pad(SIXTY_TURNS);
            x.answers("race() = 60");
            Report.due("speed() of 16 by 60", x.call("speed"), 16.0 / 60.0);
        });
    }

    private void ended() {
        section("Promise 23: ended");
        sentence("Tells what the race would end in from now on.", () -> {
            endedAs(Wagons.on(PLAIN_14, 1, 1), 1, 1, 0, 15, 14);
            endedAs(Wagons.on("m".repeat(14), 1, 1), 1, 1, 0, 29, 14);
            endedAs(Wagons.on("s".repeat(14), 1, 1), 0, 0, 0, 1, 0);
            endedAs(Wagons.on("iiimimiiiiimi", 1, 3), 0, 0, 1, 92, 13);
            // From the first turn to the last one, and behind it.
            Wagons x = Wagons.on(".", 1, 2);
            endedAs(x, 0, 0, 0, 5, 0);
            x.answers("best() = 5");
            endedAs(x, 0, 0, 0, 4, 0);
            x.answers("best() = 0; best() = 1; best() = 0");
            endedAs(x, 0, 0, 0, 1, 0);
            endedAs(x, 1, 1, 0, 1, 0);
            x.answers("best() = 1");
            endedAs(x, 0, 0, 0, 0, 0);
            endedAs(x, 1, 1, 0, 0, 0);
            x.answers("count(3) = 5; count(13) = 4");
        });
        sentence("`zero`: what the wagon 0 would do: 0 best turns, 1 by greed", () -> {
            Wagons x = Wagons.on(".", 1, 2);
            x.answers("ended(-1, 0, 0) = INVALID_ARGUMENT; ended(2, 0, 0) = INVALID_ARGUMENT");
            endedAs(x, 0, 0, 0, 5, 0);
            endedAs(x, 1, 0, 1, 2, 1);
            refusesOutside(x, "ended(#, 0, 0)", 0, 1);
            refusesOutside(Wagons.won(), "ended(#, 1, 2)", 0, 1);
        });
        sentence("`one`: what the wagon 1 would do, likewise", () -> {
            // By greed it drives to the last mile, and the other one leaps to the end; by its best turn it stops that.
            Wagons x = Wagons.on("..", 1, 2).answers("drive(1) = 1");
            x.answers("ended(0, -1, 0) = INVALID_ARGUMENT; ended(0, 2, 0) = INVALID_ARGUMENT");
            endedAs(x, 0, 0, 1, 5, 1);
            endedAs(x, 0, 1, 0, 2, 2);
            endedAs(x, 1, 0, 1, 5, 1);
            endedAs(x, 1, 1, 0, 2, 2);
            refusesOutside(x, "ended(0, #, 0)", 0, 1);
            refusesOutside(Wagons.won(), "ended(1, #, 2)", 0, 1);
        });
        sentence("`what`: 0: the wagon that would win; 1: how many turns more; "
                + "2: the place of the other wagon then", () -> {
            Wagons x = Wagons.on(".", 1, 2);
            x.answers("ended(1, 1, -1) = INVALID_ARGUMENT; ended(1, 1, 0) = 1; ended(1, 1, 1) = 2",
                    "ended(1, 1, 2) = 1",
                    "ended(1, 1, 3) = INVALID_ARGUMENT");
            refusesOutside(x, "ended(0, 0, #)", 0, 2);
            refusesOutside(Wagons.won(), "ended(0, 1, #)", 0, 2);
            // The other wagon at the place 0 and on the last mile; a race that the wagon 1 has won.
            endedAs(Wagons.on("s", 1, 1), 1, 1, 0, 1, 0);
            Wagons.on(".").answers("drive(1) = 1; ended(0, 0, 0) = 1; ended(0, 0, 1) = 1; ended(0, 0, 2) = 1",
                    "drive(1) = 2",
                    "ended(0, 0, 0) = 1; ended(0, 0, 1) = 0; ended(0, 0, 2) = 1; ended(1, 1, 2) = 1");
        });
        sentence("Returns the number; INVALID_ARGUMENT.",
                () -> new Wagons().answers("ended(1, 1, 0) = 0; ended(2, 1, 0) = INVALID_ARGUMENT",
                        "ended(1, 2, 0) = INVALID_ARGUMENT",
                        "ended(1, 1, 3) = INVALID_ARGUMENT; ended(MIN, MIN, MIN) = INVALID_ARGUMENT",
                        "ended(MAX, MAX, MAX) = INVALID_ARGUMENT; ended(-1, -1, -1) = INVALID_ARGUMENT",
                        "count(3) = 0"));
    }

    private static void endedAs(Wagons x, int zero, int one, int winner, int turns, int place) {
        String call = "ended(" + zero + ", " + one + ", ";
        x.answers(call + "0) = " + winner + "; " + call + "1) = " + turns + "; " + call + "2) = " + place);
    }
}
