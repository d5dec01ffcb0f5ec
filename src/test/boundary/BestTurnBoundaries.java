/** What races are worth, the best turn, and greed. */
final class BestTurnBoundaries extends Boundaries {
    private static final String[] SHORT_ROADS = {".", "m", "s", "i", "..", ".m", ".s", ".i", "m.", "mm", "ms", "mi",
        "s.", "sm", "ss", "si", "i.", "im", "is", "ii"};

    @Override
    void tests() {
        section("Best turns");
        worthByTurns();
        worthOfBeingSure();
        bestOfSeveral();
        lostTurn();
        greed();
    }

    private void worthByTurns() {
        sentence("A race that is won from now on in m turns (those of both wagons, lost ones, too, the last one "
                + "counts) is worth 500 less m for the winner, and m less 500 for the other one.", () -> {
            for (int way = 0; way <= 1; way++) {
                String worth = "worth(" + way + ") = ";
                // No turn more, then one turn.
                Wagons.won().answers(worth + 500);
                Wagons.on(".").answers(worth + 1499);
                Wagons.on("ssssssssssssss").answers(worth + 1499);
                // Told backwards: 2 turns, 3 with a lost one, 4 with one, and, by STOP 2, 5 with two lost ones.
                Wagons.on(".", 1, 1).answers(worth + 504 + "; token() = 1; " + worth + 1497 + "; lose() = 0",
                        "" + worth + 502,
                        "drive(1) = 1; " + worth + 1499 + "; drive(1) = 2; " + worth + 500);
                Wagons.on(".", 1, 2).answers(worth + 1495 + "; token() = 2; " + worth + 504 + "; lose() = 1",
                        "" + worth + 1497,
                        "drive(1) = 1; " + worth + 502 + "; lose() = 0; " + worth + 1499 + "; drive(1) = 2",
                        "" + worth + 500);
                // The longest races that are known on short and long roads: the numbers stay on their sides of 0.
                Wagons.on("iimiiiiiiimiii", 1, 3).answers(worth + 1411 + "; ended(0, 0, 1) = 89; ended(0, 0, 0) = 0");
                Wagons.on("iiimimiiiiimi", 1, 3).answers(worth + 592 + "; ended(0, 0, 1) = 92; ended(0, 0, 0) = 1");
            }
            for (String road : SHORT_ROADS) {
                for (int settings = 0; settings < 12; settings++) {
                    worthAsEnded(Wagons.on(road, 1 + settings % 4, 1 + settings / 4), road + " " + settings);
                }
            }
        });
    }

    /** The worth by both ways is that of the race that best turns end in, from its begin to its end. */
    private static void worthAsEnded(Wagons x, String name) {
        for (int turn = 0; turn < 12 && x.call("count", 1) >= 0; turn++) {
            double more = x.call("ended", 0, 0, 1);
            boolean wins = x.call("ended", 0, 0, 0) == x.call("count", 1);
            Report.due(name + ", worth(0)", x.call("worth", 0), wins ? 1500 - more : 500 + more);
            Report.due(name + ", worth(1)", x.call("worth", 1), wins ? 1500 - more : 500 + more);
            x.call("best");
        }
    }

    private void worthOfBeingSure() {
        sentence("The worth of the race for the wagon on turn is the greatest worth of which it can be sure, if both "
                + "do as well for themselves as they can.", () -> {
            // By driving, the other wagon leaps to the end at once; the token only puts that off.
            Wagons.on(".", 1, 1).answers("worthOf(1) = 502; worthOf(5) = 504; worth(0) = 504; worth(1) = 504",
                    "token() = 1; lose() = 0; worthOf(1) = 502; worthOf(5) = NOT_POSSIBLE; worth(0) = 502",
                    "worth(1) = 502");
            for (String road : SHORT_ROADS) {
                for (int settings = 0; settings < 12; settings++) {
                    for (String turns : new String[] {"", "1", "t", "t-", "t--", "tt", "11"}) {
                        Wagons x = Wagons.on(road, 1 + settings % 4, 1 + settings / 4).pad(turns);
                        x.call("race");
                        greatestOfTurns(x, road + " " + settings + " " + turns);
                    }
                }
            }
        });
    }

    private static void greatestOfTurns(Wagons x, String name) {
        double greatest = -1;
        for (int turn = 1; turn <= 5; turn++) {
            greatest = Math.max(greatest, x.call("worthOf", turn));
        }
        if (greatest >= 0) {
            Report.due(name + ", worth(0)", x.call("worth", 0), greatest);
            Report.due(name + ", worth(1)", x.call("worth", 1), greatest);
        }
    }

    private void bestOfSeveral() {
        sentence("The best turn is one with which that is come to: of several driving comes ahead of the token, and "
                + "fewer miles ahead of more.", () -> {
            // The token alone, and a drive that is as good as the token.
            Wagons.on(".", 1, 1).answers("worthOf(1) = 502; worthOf(5) = 504; bestTurn() = 5; best() = 5");
            Wagons.on("m..", 1, 2).answers("drive(1) = 1; worth(0) = 1493; worthOf(1) = 1493; worthOf(5) = 1493",
                    "bestTurn() = 1; best() = 1");
            // Drives that win at once: one, two, three, and all four of them.
            Wagons.on("...", 4, 1).answers("worthOf(4) = 1499; bestTurn() = 4; best() = 4");
            Wagons.on("..", 4, 1).answers("worthOf(3) = 1499; worthOf(4) = 1499; bestTurn() = 3; best() = 3");
            Wagons.on(".", 4, 1).answers("worthOf(1) = 502; worthOf(2) = 1499; worthOf(3) = 1499; worthOf(4) = 1499",
                    "bestTurn() = 2; best() = 2");
            Wagons.on("s", 4, 1).answers("worthOf(1) = 1499; worthOf(4) = 1499; bestTurn() = 1; best() = 1");
            // Drives that lose alike: from the place 1 of 4 without a token, the other wagon at the place 3.
            Wagons.on("....", 2, 1).answers("race('t-12') = 4; wagon(0, 0) = 1; wagon(1, 0) = 3; worth(0) = 502",
                    "worthOf(1) = 502; worthOf(2) = 502; worthOf(5) = NOT_POSSIBLE; bestTurn() = 1; best() = 1");
        });
    }

    private void lostTurn() {
        sentence("A lost turn is no choice: it is the best one.",
                () -> Wagons.on("..", 3, 2).answers("bestTurn() = 3; token() = 2; bestTurn() = 0",
                        "worthOf(5) = NOT_POSSIBLE",
                        "worthOf(1) = NOT_POSSIBLE; best() = 0; wagon(1, 2) = 1; drive(1) = 1; bestTurn() = 0",
                        "race('b') = 1; wagon(1, 2) = 0; wagon(1, 4) = 2; drive(1) = 2; bestTurn() = 2; best() = 2",
                        "count(2) = 1"));
    }

    private void greed() {
        sentence("By greed a wagon drives so that it comes to stand at the greatest place, of several with the fewest "
                + "miles; it never uses the token.", () -> {
            new Wagons().answers("greedy() = 3; wagon(0, 0) = 3; set(0, 1) = 3; greedy() = 1; set(0, 4) = 1",
                    "greedy() = 4");
            // The greatest place by rolling; by the last mile of several, and as far as fewer miles.
            Wagons.on("..s.......").answers("greedy() = 3; wagon(0, 0) = 4");
            Wagons.on(".s........").answers("ends(1) = 1; ends(2) = 3; ends(3) = 3; greedy() = 2; wagon(0, 0) = 3");
            Wagons.on("sss......", 4, 1).answers("ends(4) = 4; greedy() = 1; wagon(0, 0) = 4");
            Wagons.on("sss......", 4, 1).answers("drive(4) = 4; ends(3) = 5; ends(4) = 5; greedy() = 1",
                    "wagon(1, 0) = 5");
            // The end.
            Wagons.on("....", 4, 1).answers("greedy() = 4; count(2) = NOT_FOUND");
            Wagons.on("...", 4, 1).answers("greedy() = 4; count(2) = 0");
            Wagons.on("..", 4, 1).answers("greedy() = 3; count(2) = 0");
            Wagons.on("..").answers("drive(2) = 2; ends(1) = 1; ends(2) = 3; greedy() = 2; count(2) = 1");
            Wagons.on("ssssssssssssss", 4, 1).answers("greedy() = 1; wagon(0, 0) = 15");
            // Where the token would be best.
            Wagons.on(".", 1, 1).answers("bestTurn() = 5; greedy() = 1; wagon(0, 1) = 1; wagon(0, 6) = 0");
        });
    }
}
