/** The road, a turn, the settings, and the texts. */
final class TermsBoundaries extends Boundaries {
    private static final String STEEP_14 = "ssssssssssssss";

    @Override
    void tests() {
        section("The road");
        roadOfMiles();
        placesOfRoad();
        wagonsAtFirst();
        section("A turn");
        lostTurns();
        driving();
        comingToStand();
        steepMiles();
        inns();
        tokens();
        neverOnOneMile();
        section("Settings");
        settings();
        section("Texts");
        padOfCharacters();
        roadTexts();
        turnTexts();
        faults();
    }

    private void roadOfMiles() {
        sentence("The road has 1 to 14 miles, numbered from 1 on, and an end behind the last one.", () -> {
            Wagons x = new Wagons();
            x.answers("road() = NOT_POSSIBLE; count(0) = 10");
            for (int miles : new int[] {1, 2, 13, 14}) {
                x.answers("road('" + "m".repeat(miles) + "') = " + miles + "; count(0) = " + miles
                        + "; mile(0, 0) = INVALID_ARGUMENT; mile(1, 0) = 1; mile(" + miles + ", 0) = 1; mile("
                        + (miles + 1) + ", 0) = INVALID_ARGUMENT");
            }
            for (int miles : new int[] {15, 16, 60}) {
                x.answers("road('" + ".".repeat(miles) + "') = NOT_POSSIBLE; count(0) = 14; mile(14, 0) = 1");
            }
            Wagons.on(".", 4, 1).answers("ends(1) = 1; ends(2) = 2; ends(3) = 2; ends(4) = 2");
            Wagons.on("sssssssssssss.").answers("drive(1) = 14; count(2) = NOT_FOUND; drive(1) = 15; count(2) = 1");
        });
        sentence("A mile is plain (0), muddy (1), steep (2), or has an inn (3).", () -> {
            Wagons.on(".msi").answers("mile(1, 0) = 0; mile(2, 0) = 1; mile(3, 0) = 2; mile(4, 0) = 3");
            Wagons.on("i............s").answers("mile(1, 0) = 3; mile(2, 0) = 0; mile(13, 0) = 0; mile(14, 0) = 2");
        });
        sentence("At first the road has 10 plain miles.", () -> {
            Wagons x = new Wagons();
            x.answers("count(0) = 10; count(4) = 0; count(5) = 0; count(6) = 0; mile(0, 0) = INVALID_ARGUMENT",
                    "mile(1, 0) = 0; mile(10, 0) = 0; mile(11, 0) = INVALID_ARGUMENT");
        });
    }

    private void placesOfRoad() {
        sentence("Two wagons, 0 and 1, begin ahead of the mile 1, at the place 0; a wagon that is at the end has "
                + "arrived: its place is the number of miles and 1.", () -> {
            Wagons.on(".").answers("wagon(0, 0) = 0; wagon(1, 0) = 0; mile(1, 1) = NOT_FOUND",
                    "drive(1) = 1; count(2) = NOT_FOUND; mile(1, 1) = 0",
                    "drive(1) = 2; count(2) = 1; wagon(1, 0) = 2; wagon(0, 0) = 1");
            Wagons.on("..............", 4, 1).answers("wagon(0, 0) = 0; wagon(1, 0) = 0",
                    "drive(4) = 4; drive(3) = 3; drive(4) = 8; drive(3) = 6; drive(4) = 12; drive(3) = 9",
                    "drive(2) = 14; count(2) = NOT_FOUND; drive(4) = 13; count(2) = NOT_FOUND",
                    "drive(1) = 15; count(2) = 0; wagon(0, 0) = 15; wagon(1, 0) = 13");
        });
        sentence("The race is over, when a wagon has arrived; it has won.", () -> {
            Wagons.on("..").answers("drive(2) = 2; count(1) = 1; count(2) = NOT_FOUND; drive(1) = 1; count(1) = 0",
                    "drive(1) = 3; count(1) = NOT_FOUND; count(2) = 0; drive(1) = NOT_POSSIBLE",
                    "token() = NOT_POSSIBLE; lose() = NOT_POSSIBLE; best() = NOT_POSSIBLE; greedy() = NOT_POSSIBLE",
                    "count(3) = 3; count(8) = 1; count(9) = 0");
            Wagons.on("..", 1, 1).answers("drive(1) = 1; drive(1) = 2; count(2) = NOT_FOUND",
                    "token() = 1; lose() = 0; drive(1) = 3; count(1) = NOT_FOUND; count(2) = 0");
            Wagons.on("..").answers("drive(3) = 3; count(2) = 0; undo() = 1; count(1) = 0; count(2) = NOT_FOUND",
                    "drive(3) = 3; count(2) = 0; again() = 2; count(2) = NOT_FOUND; drive(2) = 2");
            Wagons.on(".").answers("drive(1) = 1; drive(1) = 2; count(1) = NOT_FOUND; count(2) = 1; count(8) = 0",
                    "count(9) = 1; drive(1) = NOT_POSSIBLE");
        });
    }

    private void wagonsAtFirst() {
        sentence("A wagon has a token or not (at first it has one), and a number of turns that it loses (0 at first).",
                () -> new Wagons().answers("wagon(0, 1) = 1; wagon(1, 1) = 1; wagon(0, 2) = 0; wagon(1, 2) = 0",
                        "token() = 1; wagon(0, 1) = 0; wagon(1, 1) = 1; wagon(0, 2) = 0; wagon(1, 2) = 1",
                        "token() = NOT_POSSIBLE; lose() = 0; wagon(1, 2) = 0; token() = NOT_POSSIBLE; drive(1) = 1",
                        "token() = 1; wagon(1, 1) = 0; wagon(0, 2) = 1; wagon(1, 2) = 0"));
        sentence("The wagon 0 begins; the wagons are on turn one after the other.", () -> {
            Wagons.on("....", 3, 2).answers("count(1) = 0; drive(1) = 1; count(1) = 1; drive(1) = 2; count(1) = 0",
                    "token() = 2; count(1) = 1; lose() = 1; count(1) = 0; drive(2) = 4; count(1) = 1; lose() = 0",
                    "count(1) = 0; drive(1) = 5; count(1) = NOT_FOUND; again() = 4; count(1) = 0");
            new Wagons().answers("drive(1) = 1; count(1) = 1; again() = 10; count(1) = 0; drive(1) = 1; count(1) = 1",
                    "road('.') = 1; count(1) = 0");
        });
    }

    private void lostTurns() {
        sentence("A wagon on turn that loses turns does nothing but that: that number becomes 1 less.",
                () -> Wagons.on("....", 3, 3).answers("token() = 3; drive(1) = NOT_POSSIBLE; token() = NOT_POSSIBLE",
                        "lose() = 2; wagon(1, 2) = 2; drive(1) = 1; drive(1) = NOT_POSSIBLE; lose() = 1",
                        "wagon(1, 2) = 1; drive(1) = 2; drive(1) = NOT_POSSIBLE; token() = NOT_POSSIBLE; lose() = 0",
                        "wagon(1, 2) = 0; drive(1) = 3; lose() = NOT_POSSIBLE; wagon(1, 0) = 0; wagon(1, 1) = 1",
                        "wagon(1, 5) = 0; wagon(1, 6) = 0; wagon(1, 7) = 0; wagon(0, 2) = 0; drive(1) = 1"));
        sentence("Otherwise it drives, or uses its token.",
                () -> new Wagons().answers("lose() = NOT_POSSIBLE; drive(1) = 1; lose() = NOT_POSSIBLE; token() = 1",
                        "drive(1) = NOT_POSSIBLE; token() = NOT_POSSIBLE; lose() = 0; lose() = NOT_POSSIBLE",
                        "token() = NOT_POSSIBLE; drive(1) = 2"));
    }

    private void driving() {
        sentence("To drive n miles (1 to PACE): it goes n times to the next place; a place at which the other wagon "
                + "is, is leapt over: it goes on to the next one, and that costs none of the n (but the place 0 is "
                + "never leapt over, nor the end: the wagon stops at the end, whatever is left of n).", () -> {
            for (int pace = 1; pace <= 3; pace++) {
                Wagons.on("....", pace, 1).answers("drive(0) = INVALID_ARGUMENT; drive(" + (pace + 1)
                        + ") = NOT_POSSIBLE; drive(" + pace + ") = " + pace);
            }
            Wagons.on("....", 4, 1).answers("drive(5) = INVALID_ARGUMENT; drive(4) = 4");
            // The other wagon one place behind the drive's last one, at it, and ahead of it.
            new Wagons().answers("drive(2) = 2; ends(1) = 1; ends(2) = 3; ends(3) = 4; drive(1) = 1",
                    "wagon(1, 5) = 0");
            new Wagons().answers("drive(2) = 2; drive(2) = 3; wagon(1, 5) = 1; mile(2, 3) = 0; mile(3, 3) = 1");
            new Wagons().answers("drive(2) = 2; drive(3) = 4; wagon(1, 5) = 1");
            new Wagons().answers("drive(1) = 1; drive(1) = 2; wagon(1, 5) = 1; drive(1) = 3; wagon(0, 5) = 1");
            new Wagons().answers("drive(2) = 2; drive(3) = 4; drive(3) = 6; drive(1) = 5; wagon(1, 5) = 1");
            // Both at the place 0; the other one at the place 0 behind the driving one.
            new Wagons().answers("drive(1) = 1; wagon(0, 5) = 0; token() = 1; lose() = 0; drive(1) = 2",
                    "wagon(1, 5) = 1; drive(1) = 3; wagon(0, 5) = 1");
            new Wagons().answers("token() = 1; lose() = 0; drive(3) = 3; wagon(0, 5) = 0; wagon(1, 0) = 0");
            // The last mile, the end, and what would be behind it.
            Wagons.on("...", 4, 1).answers("ends(3) = 3; ends(4) = 4; drive(4) = 4; wagon(0, 0) = 4; count(2) = 0");
            Wagons.on(".", 4, 1).answers("ends(1) = 1; ends(2) = 2; ends(3) = 2; drive(4) = 2; count(2) = 0");
            // The other wagon on the last mile.
            Wagons.on("...", 4, 1).answers("drive(3) = 3; ends(1) = 1; ends(2) = 2; ends(3) = 4; ends(4) = 4",
                    "drive(3) = 4; wagon(1, 5) = 1; count(2) = 1");
            Wagons.on("...", 4, 1).answers("drive(3) = 3; drive(2) = 2; token() = 1; lose() = 0; drive(1) = 4",
                    "wagon(0, 5) = 0; wagon(0, 0) = 4; count(2) = 0");
            Wagons.on("...", 4, 1).answers("drive(3) = 3; drive(4) = 4; wagon(1, 5) = 1; count(2) = 1");
        });
    }

    private void comingToStand() {
        sentence("Only the place where it comes to stand matters: at the end it has arrived.", () -> {
            Wagons.on("msi...", 4, 1).answers("drive(4) = 4; wagon(0, 2) = 0; wagon(0, 7) = 0; mile(1, 2) = 0",
                    "mile(2, 2) = 0; mile(3, 2) = 0; mile(4, 2) = 1; mile(5, 2) = 0");
            Wagons.on("i...").answers("token() = 1; lose() = 0; drive(2) = 2; wagon(0, 1) = 0");
            Wagons.on("m...").answers("drive(1) = 1; drive(1) = 2; wagon(1, 2) = 0; mile(1, 3) = 0");
            Wagons.on("i...").answers("drive(1) = 1; token() = 1; lose() = 0; drive(1) = 2; wagon(1, 1) = 0");
            Wagons.on("msi", 4, 1).answers("drive(4) = 4; count(2) = 0; wagon(0, 2) = 0; wagon(0, 7) = 0");
            Wagons.on("..").answers("drive(2) = 2; count(2) = NOT_FOUND");
            Wagons.on("..").answers("drive(3) = 3; count(2) = 0; mile(1, 2) = 0; mile(2, 2) = 0");
        });
        sentence("On a muddy mile it loses 1 turn more.", () -> {
            Wagons.on(".m.").answers("drive(1) = 1; wagon(0, 2) = 0; drive(1) = 2; wagon(1, 2) = 1; wagon(0, 2) = 0");
            for (int stop = 1; stop <= 3; stop++) {
                Wagons.on(".m.", 3, stop).answers("drive(2) = 2; wagon(0, 2) = 1; token() = " + Math.min(3, 1 + stop),
                        "wagon(0, 2) = " + Math.min(3, 1 + stop));
            }
            Wagons.on("m............m").answers("drive(1) = 1; wagon(0, 2) = 1; drive(1) = 2; wagon(1, 2) = 0");
            Wagons.on("sssssssssssssm").answers("drive(1) = 14; wagon(0, 2) = 1; drive(1) = 15; wagon(1, 2) = 0");
        });
    }

    private void steepMiles() {
        sentence("On a steep mile it rolls on: it goes to the next place (leaping as before), and what that is "
                + "matters, too (as often as it is steep).", () -> {
            Wagons.on("s").answers("drive(1) = 2; count(2) = 0; wagon(0, 7) = 1; mile(1, 2) = 1");
            Wagons x = Wagons.on(STEEP_14);
            x.answers("drive(1) = 15; count(2) = 0; wagon(0, 7) = 14; wagon(0, 5) = 0; count(3) = 1");
            for (int mile = 1; mile <= 14; mile++) {
                x.answers("mile(" + mile + ", 2) = 1");
            }
            Wagons.on("ss.s").answers("drive(2) = 3; wagon(0, 7) = 1; mile(1, 2) = 0; mile(2, 2) = 1",
                    "mile(3, 2) = 1");
            Wagons.on("s..").answers("drive(2) = 2; wagon(0, 7) = 0");
            Wagons.on("ssm").answers("drive(1) = 3; wagon(0, 7) = 2; wagon(0, 2) = 1");
            Wagons.on("ssi").answers("token() = 1; lose() = 0; drive(1) = 3; wagon(0, 1) = 1");
            Wagons.on("..s").answers("drive(2) = 2; wagon(0, 7) = 0");
            Wagons.on("..s").answers("drive(3) = 4; wagon(0, 7) = 1; count(2) = 0");
            // Leaping as before: over the other wagon, also on the last mile, but not over the place 0.
            Wagons.on("s..").answers("drive(2) = 2; drive(1) = 3; wagon(1, 5) = 1; wagon(1, 7) = 1; mile(2, 3) = 0");
            Wagons.on("s.s").answers("drive(2) = 2; drive(1) = 4; wagon(1, 5) = 1; wagon(1, 7) = 2; count(2) = 1");
            Wagons.on("s.").answers("drive(2) = 2; drive(1) = 3; wagon(1, 5) = 1; wagon(1, 7) = 1; count(2) = 1");
            Wagons.on("s..").answers("drive(1) = 2; wagon(0, 5) = 0; wagon(0, 7) = 1");
            Wagons.on(".s..").answers("drive(1) = 1; drive(1) = 3; wagon(1, 5) = 1; wagon(1, 7) = 1; mile(2, 3) = 1");
            Wagons.on("sssssssssssss.").answers("drive(1) = 14; drive(1) = 15; wagon(1, 5) = 1; wagon(1, 7) = 13");
        });
    }

    private void inns() {
        sentence("At an inn it has its token again, if it has none.", () -> {
            Wagons.on("i..").answers("wagon(0, 1) = 1; drive(1) = 1; wagon(0, 1) = 1; wagon(1, 1) = 1; token() = 1",
                    "wagon(1, 1) = 0; wagon(0, 1) = 1");
            Wagons.on("i..").answers("token() = 1; wagon(0, 1) = 0; lose() = 0; drive(1) = 1; wagon(0, 1) = 1",
                    "drive(1) = 2; token() = 1; wagon(0, 1) = 0; wagon(0, 6) = 2; lose() = 0",
                    "token() = NOT_POSSIBLE");
            Wagons.on(".i.").answers("token() = 1; lose() = 0; drive(1) = 1; wagon(0, 1) = 0; token() = 1",
                    "lose() = 0",
                    "drive(1) = 2; wagon(1, 1) = 1; wagon(0, 1) = 0");
            // To stay at an inn gives none.
            Wagons.on("i..", 3, 2).answers("drive(1) = 1; drive(3) = 4");
            Wagons.on("i...", 3, 2).answers("drive(1) = 1; drive(1) = 2; token() = 2; wagon(0, 1) = 0; lose() = 1",
                    "wagon(0, 0) = 1; wagon(0, 1) = 0; token() = NOT_POSSIBLE");
            // The first and the last of 14 miles.
            Wagons.on("iiiiiiiiiiiiii").answers("token() = 1; lose() = 0; drive(1) = 1; wagon(0, 1) = 1");
            Wagons.on("sssssssssssssi").answers("token() = 1; lose() = 0; drive(1) = 14; wagon(0, 1) = 1");
        });
    }

    private void tokens() {
        sentence("To use the token: it has none then, and the other wagon loses STOP turns more, but never more than "
                + "3 in all.", () -> {
            for (int stop = 1; stop <= 3; stop++) {
                Wagons.on("....", 3, stop).answers("token() = " + stop + "; wagon(0, 1) = 0; wagon(1, 2) = " + stop,
                        "wagon(1, 1) = 1; wagon(0, 2) = 0; wagon(0, 0) = 0");
            }
            // To a turn that is lost in mud: 2, 3, and 3 instead of 4.
            Wagons.on("m...", 3, 1).answers("drive(1) = 1; token() = 2; wagon(0, 2) = 2");
            Wagons.on("m...", 3, 2).answers("drive(1) = 1; token() = 3; wagon(0, 2) = 3");
            Wagons.on("m...", 3, 3).answers("drive(1) = 1; token() = 3; wagon(0, 2) = 3; lose() = 2; drive(1) = 2",
                    "lose() = 1; drive(2) = 4; lose() = 0; wagon(0, 4) = 3");
            // To a turn that is left of an earlier token.
            for (int stop = 1; stop <= 3; stop++) {
                Wagons x = Wagons.on("i....", 1, 3);
                x.answers("token() = 3; lose() = 2; drive(1) = 1; lose() = 1; set(1, " + stop + ") = 3; token() = "
                        + Math.min(3, 1 + stop) + "; wagon(1, 2) = " + Math.min(3, 1 + stop));
            }
        });
    }

    private void neverOnOneMile() {
        sentence("(Both wagons are never on the same mile.)", () -> {
            for (String road : new String[] {".", "i", "..", "s.", ".s", "s..", ".s.", "..s", "ss.", "s.s.", "i.s.i",
                "ssssssssssssss", "s.s.s.s.s.s.s.", "ss..ss..ss..ss"}) {
                for (int turns = 0; turns < 256; turns++) {
                    drivesApart(road, turns);
                }
            }
        });
    }

    /** Four drives of 1 to 4 miles each; the wagons may be together at the place 0 alone. */
    private static void drivesApart(String road, int turns) {
        Wagons x = Wagons.on(road, 4, 1);
        for (int drive = 0; drive < 4; drive++) {
            double place = x.call("drive", 1 + (turns >> 2 * drive & 3));
            double other = x.call("wagon", (drive + 1) % 2, 0);
            if (place == other) {
                Report.fault("both wagons at " + place + " of " + road + ", turns " + turns);
            }
        }
    }

    private void settings() {
        sentence("(In parentheses: range; first value.)",
                () -> new Wagons().answers("count(10) = 3; count(11) = 1; again() = 10; count(10) = 3",
                        "count(11) = 1"));
        sentence("PACE (1 to 4; 3), STOP (1 to 3; 1).", () -> {
            Wagons x = new Wagons();
            x.answers("count(10) = 3; count(11) = 1; set(0, 0) = INVALID_ARGUMENT; set(0, 1) = 3; set(0, 4) = 1",
                    "set(0, 5) = INVALID_ARGUMENT; count(10) = 4; set(1, 0) = INVALID_ARGUMENT; set(1, 1) = 1",
                    "set(1, 3) = 1; set(1, 4) = INVALID_ARGUMENT; count(11) = 3");
            refusesOutside(x, "set(0, #)", 1, 4);
            refusesOutside(x, "set(1, #)", 1, 3);
            x.answers("count(10) = 4; count(11) = 3; drive(4) = 4; token() = 3; lose() = 2; set(0, 1) = 4",
                    "drive(2) = NOT_POSSIBLE; drive(1) = 1; lose() = 1; undo() = 3");
        });
    }

    private void padOfCharacters() {
        sentence("There is a pad of at most 60 characters, initially empty.", () -> {
            Wagons x = new Wagons();
            x.answers("count(12) = 0; clear() = 0; fault(0) = 0; fault(1) = 0; append(46) = 1; count(12) = 1");
            x.padMore(".".repeat(57)).answers("count(12) = 58; append(46) = 59; append(46) = 60; count(12) = 60",
                    "append(46) = LIMIT_REACHED; append(126) = LIMIT_REACHED; count(12) = 60; clear() = 60",
                    "count(12) = 0; append(33) = 1; clear() = 1; clear() = 0");
        });
        sentence("It can be read in two ways.",
                () -> new Wagons().pad("1.").answers("fault(-1) = INVALID_ARGUMENT; fault(0) = 0; fault(1) = 1",
                        "fault(2) = INVALID_ARGUMENT"));
    }

    private void roadTexts() {
        sentence("A road: 1 to 14 signs: \".\" (plain), \"m\" (muddy), \"s\" (steep), \"i\" (an inn).", () -> {
            new Wagons().answers("fault(0) = 0; road() = NOT_POSSIBLE");
            for (int signs : new int[] {1, 2, 13, 14}) {
                new Wagons().pad("i".repeat(signs)).answers("fault(0) = NOT_FOUND; road() = " + signs);
            }
            for (int signs : new int[] {15, 59, 60}) {
                new Wagons().pad("i".repeat(signs)).answers("fault(0) = 14; road() = NOT_POSSIBLE",
                        "count(12) = " + signs);
            }
            eachSignAlone(0, ".msi");
            Wagons.on(".").answers("mile(1, 0) = 0; road('m') = 1; mile(1, 0) = 1; road('s') = 1; mile(1, 0) = 2",
                    "road('i') = 1; mile(1, 0) = 3");
        });
    }

    /** Of all characters that a pad can hold, those of the signs are right, and no other one. */
    private static void eachSignAlone(int way, String signs) {
        for (int first = 33; first <= 126; first += 47) {
            Wagons x = new Wagons();
            for (int code = first; code < first + 47; code++) {
                x.answers("append(" + code + ") = 1; fault(" + way + ") = "
                        + (signs.indexOf(code) >= 0 ? "NOT_FOUND" : "0") + "; clear() = 1");
            }
        }
    }

    private void turnTexts() {
        sentence("Turns: one or more of a digit 1 to 4 (so many miles are driven), \"t\" (the token is used), \"b\" "
                + "(the best turn), \"g\" (by greed), \"-\" (a lost turn), one behind the other.", () -> {
            new Wagons().answers("fault(1) = 0; race() = NOT_POSSIBLE");
            for (int signs : new int[] {1, 2, 14, 15, 59, 60}) {
                new Wagons().pad("1".repeat(signs)).answers("count(12) = " + signs + "; fault(1) = NOT_FOUND");
            }
            eachSignAlone(1, "1234tbg-");
            new Wagons().answers("race('0') = NOT_POSSIBLE; race('5') = NOT_POSSIBLE; count(3) = 0; count(12) = 1");
            for (int miles = 1; miles <= 4; miles++) {
                Wagons.on("....", 4, 1).answers("race('" + miles + "') = 1; wagon(0, 0) = " + miles);
            }
            Wagons.on("..", 1, 3).answers("race('t-1-1-') = 6; wagon(0, 0) = 2; wagon(0, 6) = 1; wagon(1, 4) = 3");
            // Where the best turn is the token, and greed drives.
            Wagons.on(".", 1, 1).answers("race('b') = 1; wagon(0, 6) = 1; wagon(0, 0) = 0");
            Wagons.on(".", 1, 1).answers("race('g') = 1; wagon(0, 6) = 0; wagon(0, 0) = 1");
        });
    }

    private void faults() {
        sentence("The fault of the pad, read in one of these ways, is the position, from 0, of the first character "
                + "that is wrong: no pad of that kind, of any length, begins with the characters before it and this "
                + "character; if there is none, and the pad is not complete (also if it is empty), the length of the "
                + "pad.", () -> {
            new Wagons().answers("count(12) = 0; fault(0) = 0; fault(1) = 0");
            // The first, the second, the last place of a road, and the one behind it, at which no sign is right.
            for (int at : new int[] {0, 1, 12, 13, 14}) {
                new Wagons().pad("m".repeat(at) + "1").answers("fault(0) = " + at);
            }
            for (String last : new String[] {".", "1", "~"}) {
                new Wagons().pad("m".repeat(14) + last).answers("fault(0) = 14");
                new Wagons().pad("m".repeat(13) + last)
                        .answers("fault(0) = " + (last.equals(".") ? "NOT_FOUND" : "13"));
            }
            for (int at : new int[] {0, 1, 14, 58, 59}) {
                new Wagons().pad("4".repeat(at) + ".").answers("fault(1) = " + at);
            }
            // Of several wrong ones the first.
            new Wagons().pad("!m!").answers("fault(0) = 0; fault(1) = 0");
            new Wagons().pad("m!!").answers("fault(0) = 1; fault(1) = 0");
            new Wagons().pad("mm5ss5" + "m".repeat(54)).answers("count(12) = 60; fault(0) = 2; fault(1) = 0");
            new Wagons().pad("t-0b.").answers("fault(0) = 0; fault(1) = 2");
        });
    }
}
