/** For each promise of the document: ordinary inputs, the edges that it names, and wrong inputs. */
public final class PromiseTests {
    private static final int INVALID = -1, NOT_POSSIBLE = -2, LIMIT = -3, NOT_FOUND = -4;

    private static int wrong = 0;
    private static String promise = "";

    private static void due(String call, double got, double want) {
        if (got != want) {
            wrong++;
            System.out.println(promise + ": " + call + " answered " + got + ", due is " + want);
        }
    }

    private static void type(WagonLeaps x, String text) {
        x.clear();
        for (int i = 0; i < text.length(); i++) {
            x.append(text.charAt(i));
        }
    }

    /** A new object whose race is on this road. */
    private static WagonLeaps on(String road) {
        WagonLeaps x = new WagonLeaps();
        type(x, road);
        x.road();
        return x;
    }

    private static WagonLeaps on(String road, int pace, int stop) {
        WagonLeaps x = on(road);
        x.set(WagonLeaps.PACE, pace);
        x.set(WagonLeaps.STOP, stop);
        return x;
    }

    private static int run(WagonLeaps x, String turns) {
        type(x, turns);
        return x.race();
    }

    /** A race of one mile that the wagon 0 has won. */
    private static WagonLeaps won() {
        WagonLeaps x = on(".");
        x.drive(2);
        return x;
    }

    private static void constants() {
        promise = "constants";
        due("INVALID_ARGUMENT", WagonLeaps.INVALID_ARGUMENT, -1);
        due("NOT_POSSIBLE", WagonLeaps.NOT_POSSIBLE, -2);
        due("LIMIT_REACHED", WagonLeaps.LIMIT_REACHED, -3);
        due("NOT_FOUND", WagonLeaps.NOT_FOUND, -4);
        due("PACE", WagonLeaps.PACE, 0);
        due("STOP", WagonLeaps.STOP, 1);
    }

    private static void newObject() {
        promise = "promise 1";
        WagonLeaps x = new WagonLeaps();
        int[] counts = {10, 0, NOT_FOUND, 0, 0, 0, 0, 1, 0, 0, 3, 1, 0, 0};
        for (int what = 0; what < counts.length; what++) {
            due("count(" + what + ")", x.count(what), counts[what]);
        }
        int[] wagon = {0, 1, 0, 0, 0, 0, 0, 0};
        for (int what = 0; what < wagon.length; what++) {
            due("wagon(0, " + what + ")", x.wagon(0, what), wagon[what]);
            due("wagon(1, " + what + ")", x.wagon(1, what), wagon[what]);
        }
        for (int mile = 1; mile <= 10; mile++) {
            due("mile(" + mile + ", 0)", x.mile(mile, 0), 0);
            due("mile(" + mile + ", 1)", x.mile(mile, 1), NOT_FOUND);
        }
        due("undo()", x.undo(), NOT_POSSIBLE);
        due("restore()", x.restore(), NOT_POSSIBLE);
        due("why(0)", x.why(0), NOT_FOUND);
        due("speed()", x.speed(), 0.0);
    }

    private static void drive() {
        promise = "promise 2";
        WagonLeaps x = new WagonLeaps();
        due("drive(0)", x.drive(0), INVALID);
        due("drive(5)", x.drive(5), INVALID);
        due("drive(-2147483648)", x.drive(Integer.MIN_VALUE), INVALID);
        due("drive(4) above PACE", x.drive(4), NOT_POSSIBLE);
        due("count(13) after errors", x.count(13), 0);
        due("drive(3)", x.drive(3), 3);
        due("drive(2), not leaping", x.drive(2), 2);
        due("drive(3)", x.drive(3), 6);
        due("drive(3)", x.drive(3), 5);
        due("drive(1)", x.drive(1), 7);
        due("drive(2), leaping over 7", x.drive(2), 8);
        due("leaps of 1", x.wagon(1, 5), 1);
        due("drive(1), leaping over 8", x.drive(1), 9);
        due("drive(3), stopped at the end", x.drive(3), 11);
        due("leaps of 1", x.wagon(1, 5), 2);
        due("drive(1) in a race that is over", x.drive(1), NOT_POSSIBLE);
        due("drive(9) in a race that is over", x.drive(9), INVALID);

        x = on("..");
        due("drive(1) ahead of a wagon at 0", x.drive(1), 1);
        due("leaps", x.wagon(0, 5), 0);
        due("drive(1) over the mile 1", x.drive(1), 2);
        due("drive(1) over the mile 2 to the end", x.drive(1), 3);
        due("leaps to the end", x.wagon(0, 5), 1);
        due("winner", x.count(2), 0);

        x = on("m.ss.i");
        due("drive(1) to mud", x.drive(1), 1);
        due("turns lost by mud", x.wagon(0, 2), 1);
        due("drive(1) leaping mud", x.drive(1), 2);
        due("no mud by leaping", x.wagon(1, 2), 0);
        due("drive(1) that is lost", x.drive(1), NOT_POSSIBLE);
        x.lose();
        due("drive(1), rolling twice", x.drive(1), 5);
        due("rolled", x.wagon(1, 7), 2);
        due("drive(2), rolling over 5 to an inn", x.drive(2), 6);
        due("rolled", x.wagon(0, 7), 2);
        due("leaps when rolling", x.wagon(0, 5), 1);

        x = on("i...");
        x.token();
        x.lose();
        due("token gone", x.wagon(0, 1), 0);
        x.drive(1);
        due("token back at the inn", x.wagon(0, 1), 1);

        x = on("i...");
        x.token();
        x.lose();
        x.drive(2);
        due("no token by passing the inn", x.wagon(0, 1), 0);

        x = on("ssssssssssssss");
        due("drive(1) on steep miles alone", x.drive(1), 15);
        due("rolled", x.wagon(0, 7), 14);

        x = on("sm");
        due("drive(1) rolling on to mud", x.drive(1), 2);
        due("turns lost", x.wagon(0, 2), 1);
    }

    private static void token() {
        promise = "promise 3";
        WagonLeaps x = new WagonLeaps();
        due("token()", x.token(), 1);
        due("token() that is lost", x.token(), NOT_POSSIBLE);
        due("lose()", x.lose(), 0);
        due("token() without one", x.token(), NOT_POSSIBLE);
        due("used", x.wagon(0, 6), 1);
        due("place", x.wagon(0, 0), 0);

        x = on("mii", 3, 2);
        x.drive(1);
        due("token() onto one turn", x.token(), 3);
        x = on("mii", 3, 3);
        x.drive(1);
        due("token() never above 3", x.token(), 3);
        due("lose()", x.lose(), 2);
        due("token() of a stopped one's other", x.token(), NOT_POSSIBLE);
        due("token() when over", won().token(), NOT_POSSIBLE);
    }

    private static void lose() {
        promise = "promise 4";
        WagonLeaps x = on("....", 3, 3);
        due("lose() at first", x.lose(), NOT_POSSIBLE);
        x.token();
        due("lose()", x.lose(), 2);
        due("lose() by the other", x.lose(), NOT_POSSIBLE);
        x.drive(1);
        due("lose()", x.lose(), 1);
        x.drive(1);
        due("lose()", x.lose(), 0);
        due("lost turns", x.wagon(1, 4), 3);
        due("turns", x.wagon(1, 3), 3);
        due("lose() when over", won().lose(), NOT_POSSIBLE);
    }

    private static void best() {
        promise = "promise 5";
        WagonLeaps x = on(".");
        due("best(), fewest miles that arrive", x.best(), 2);
        due("best() when over", x.best(), NOT_POSSIBLE);
        due("winner", x.count(2), 0);

        x = on(".", 1, 1);
        due("best(), the token", x.best(), 5);
        due("best(), a lost turn", x.best(), 0);
        due("best() without the token", x.best(), 1);
        due("best() leaping", x.best(), 1);
        due("winner", x.count(2), 1);
        due("states", x.count(13), 4);
    }

    private static void greedy() {
        promise = "promise 6";
        WagonLeaps x = on("..s.......");
        due("greedy(), the greatest place", x.greedy(), 3);
        due("place", x.wagon(0, 0), 4);

        x = on(".s........", 3, 1);
        due("greedy(), fewest miles to 3", x.greedy(), 2);
        x.token();
        due("greedy(), a lost turn", x.greedy(), 0);

        x = on("sssm..", 3, 1);
        due("greedy(), fewest miles to 4", x.greedy(), 1);
        x = on("..", 4, 1);
        due("greedy(), fewest miles to the end", x.greedy(), 3);
        due("greedy() when over", x.greedy(), NOT_POSSIBLE);
    }

    private static void again() {
        promise = "promise 7";
        WagonLeaps x = on("msi.", 2, 3);
        x.drive(1);
        x.token();
        due("again()", x.again(), 4);
        int[] wagon = {0, 1, 0, 0, 0, 0, 0, 0};
        for (int what = 0; what < wagon.length; what++) {
            due("wagon(0, " + what + ")", x.wagon(0, what), wagon[what]);
            due("wagon(1, " + what + ")", x.wagon(1, what), wagon[what]);
        }
        due("mile(1, 2)", x.mile(1, 2), 0);
        due("the same road", x.mile(2, 0), 2);
        due("turns", x.count(3), 0);
        due("on turn", x.count(1), 0);
        due("races", x.count(7), 3);
        due("PACE stays", x.count(10), 2);
        due("STOP stays", x.count(11), 3);
        x = won();
        due("again() when over", x.again(), 1);
        due("winner", x.count(2), NOT_FOUND);
        due("races won stay", x.count(8), 1);
    }

    private static void set() {
        promise = "promise 8";
        WagonLeaps x = new WagonLeaps();
        due("set(0, 4)", x.set(0, 4), 3);
        due("set(0, 1)", x.set(0, 1), 4);
        due("set(1, 3)", x.set(1, 3), 1);
        due("set(1, 1)", x.set(1, 1), 3);
        due("set(0, 0)", x.set(0, 0), INVALID);
        due("set(0, 5)", x.set(0, 5), INVALID);
        due("set(1, 0)", x.set(1, 0), INVALID);
        due("set(1, 4)", x.set(1, 4), INVALID);
        due("set(2, 1)", x.set(2, 1), INVALID);
        due("set(-1, 1)", x.set(-1, 1), INVALID);
        due("states", x.count(13), 4);
        due("drive(2) above PACE", x.drive(2), NOT_POSSIBLE);
        due("set() when over", won().set(0, 3), 3);
    }

    private static void append() {
        promise = "promise 9";
        WagonLeaps x = new WagonLeaps();
        due("append(32)", x.append(32), INVALID);
        due("append(127)", x.append(127), INVALID);
        for (int i = 1; i <= 60; i++) {
            due("append, length " + i, x.append(i % 2 == 0 ? 33 : 126), i);
        }
        due("append(33) to a full pad", x.append(33), LIMIT);
        due("append(32) to a full pad", x.append(32), INVALID);
        due("count(12)", x.count(12), 60);
        due("no change", x.count(13), 0);
    }

    private static void clear() {
        promise = "promise 10";
        WagonLeaps x = new WagonLeaps();
        due("clear()", x.clear(), 0);
        type(x, "mm");
        due("clear()", x.clear(), 2);
        due("count(12)", x.count(12), 0);
        due("no change", x.count(13), 0);
    }

    private static void faultIs(String text, int asRoad, int asTurns) {
        WagonLeaps x = new WagonLeaps();
        type(x, text);
        due("fault(0) of " + text, x.fault(0), asRoad);
        due("fault(1) of " + text, x.fault(1), asTurns);
        due("the pad stays", x.count(12), text.length());
    }

    private static void fault() {
        promise = "promise 11";
        faultIs("", 0, 0);
        faultIs(".msi", NOT_FOUND, 0);
        faultIs("..............", NOT_FOUND, 0);
        faultIs("...............", 14, 0);
        faultIs("..............x", 14, 0);
        faultIs(".mx", 2, 0);
        faultIs("1234tbg-", 0, NOT_FOUND);
        faultIs("10", 0, 1);
        faultIs("15", 0, 1);
        faultIs("4T", 0, 1);
        faultIs("tB", 0, 1);
        faultIs("I", 0, 0);
        faultIs("m-", 1, 0);
        faultIs("--------------------b.", 0, 21);
        WagonLeaps x = new WagonLeaps();
        due("fault(2)", x.fault(2), INVALID);
        due("fault(-1)", x.fault(-1), INVALID);
    }

    private static void road() {
        promise = "promise 12";
        WagonLeaps x = new WagonLeaps();
        due("road() of nothing", x.road(), NOT_POSSIBLE);
        type(x, ".x");
        due("road() with a fault", x.road(), NOT_POSSIBLE);
        due("the pad stays", x.count(12), 2);
        due("no change", x.count(13), 0);
        x.drive(3);
        x.set(0, 2);
        type(x, ".msiim");
        due("road()", x.road(), 6);
        int[] kinds = {0, 1, 2, 3, 3, 1};
        for (int mile = 1; mile <= kinds.length; mile++) {
            due("mile(" + mile + ", 0)", x.mile(mile, 0), kinds[mile - 1]);
        }
        due("mile(7, 0)", x.mile(7, 0), INVALID);
        due("the pad is empty", x.count(12), 0);
        due("a new race", x.wagon(0, 0), 0);
        due("races", x.count(7), 2);
        due("PACE stays", x.count(10), 2);
        due("undo()", x.undo(), 2);
        due("the old road", x.count(0), 10);
        due("the old place", x.wagon(0, 0), 3);
        due("the pad is empty still", x.count(12), 0);
        type(x, "..............");
        due("road() of 14 miles", x.road(), 14);
    }

    private static void race() {
        promise = "promise 13";
        WagonLeaps x = new WagonLeaps();
        due("race() of nothing", x.race(), NOT_POSSIBLE);
        due("race() with a fault", run(x, "1x"), NOT_POSSIBLE);
        due("the pad stays", x.count(12), 2);
        due("no turn is made", x.count(3), 0);
        due("race()", run(x, "12t"), 3);
        due("the pad is empty", x.count(12), 0);
        due("one change", x.count(13), 1);
        due("place of 0", x.wagon(0, 0), 1);
        due("place of 1, leaping", x.wagon(1, 0), 3);
        due("turns that 1 loses", x.wagon(1, 2), 1);
        due("race() that stops", run(x, "-141"), 2);
        due("the pad is empty", x.count(12), 0);
        due("turns", x.count(3), 5);
        due("one change", x.count(13), 2);
        due("race() of no turn", run(x, "-"), 0);
        due("one change", x.count(13), 3);
        due("undo() changes nothing but the history", x.undo(), 2);
        due("undo()", x.undo(), 1);
        due("turns", x.count(3), 3);
        due("race() by greed and lost turns", run(x, "ggg"), 3);
        due("lost by greed", x.wagon(1, 4), 1);
        due("best turns to the end", run(on(".", 1, 1), "bbbbbbbb"), 4);
        due("fewer best turns", run(on("."), "bb"), 1);
    }

    private static void whyIs(WagonLeaps x, String turns, int position, int reason) {
        run(x, turns);
        due("why(0) of " + turns, x.why(0), position);
        due("why(1) of " + turns, x.why(1), reason);
    }

    private static void why() {
        promise = "promise 14";
        whyIs(on("."), "2g", 1, 1);
        whyIs(on("."), "2-", 1, 1);
        whyIs(on("."), "24", 1, 1);
        whyIs(new WagonLeaps(), "t1", 1, 2);
        whyIs(new WagonLeaps(), "t4", 1, 2);
        whyIs(new WagonLeaps(), "tt", 1, 2);
        whyIs(new WagonLeaps(), "11-", 2, 3);
        whyIs(new WagonLeaps(), "14", 1, 4);
        whyIs(new WagonLeaps(), "t-t", 2, 5);
        whyIs(new WagonLeaps(), "tb1", NOT_FOUND, NOT_FOUND);
        whyIs(new WagonLeaps(), "tg1", NOT_FOUND, NOT_FOUND);
        WagonLeaps x = new WagonLeaps();
        run(x, "14");
        x.race();
        due("why(0) after a race() with an error", x.why(0), 1);
        x.save();
        x.undo();
        x.restore();
        due("why(1) is not undone or restored", x.why(1), 4);
        due("why(2)", x.why(2), INVALID);
        due("why(-1)", x.why(-1), INVALID);
        run(x, "1");
        due("why(0) when all were made", x.why(0), NOT_FOUND);
        due("why(2) when all were made", x.why(2), INVALID);
    }

    private static void mile() {
        promise = "promise 15";
        WagonLeaps x = on(".si.m");
        run(x, "22");
        due("mile(2, 2)", x.mile(2, 2), 1);
        due("mile(3, 2), rolled to", x.mile(3, 2), 1);
        due("mile(1, 2)", x.mile(1, 2), 0);
        due("mile(3, 1)", x.mile(3, 1), 0);
        due("mile(2, 1), rolled on from", x.mile(2, 1), NOT_FOUND);
        due("mile(2, 3)", x.mile(2, 3), 1);
        due("mile(3, 3), leapt over", x.mile(3, 3), 0);
        due("mile(4, 3)", x.mile(4, 3), 1);
        due("mile(4, 1)", x.mile(4, 1), 1);
        due("mile(5, 0)", x.mile(5, 0), 1);
        due("mile(0, 0)", x.mile(0, 0), INVALID);
        due("mile(6, 0)", x.mile(6, 0), INVALID);
        due("mile(1, 4)", x.mile(1, 4), INVALID);
        due("mile(1, -1)", x.mile(1, -1), INVALID);
        due("mile(2147483647, 0)", x.mile(Integer.MAX_VALUE, 0), INVALID);
    }

    private static void wagon() {
        promise = "promise 16";
        WagonLeaps x = on(".sm....", 3, 2);
        run(x, "21-");
        int[] zero = {3, 1, 0, 2, 1, 0, 0, 1};
        int[] one = {1, 1, 0, 1, 0, 0, 0, 0};
        for (int what = 0; what < 8; what++) {
            due("wagon(0, " + what + ")", x.wagon(0, what), zero[what]);
            due("wagon(1, " + what + ")", x.wagon(1, what), one[what]);
        }
        run(x, "1t-");
        int[] zeroThen = {3, 0, 0, 3, 1, 0, 1, 1};
        int[] oneThen = {4, 1, 1, 3, 1, 1, 0, 1};
        for (int what = 0; what < 8; what++) {
            due("wagon(0, " + what + ") then", x.wagon(0, what), zeroThen[what]);
            due("wagon(1, " + what + ") then", x.wagon(1, what), oneThen[what]);
        }
        due("wagon(2, 0)", x.wagon(2, 0), INVALID);
        due("wagon(-1, 0)", x.wagon(-1, 0), INVALID);
        due("wagon(0, 8)", x.wagon(0, 8), INVALID);
        due("wagon(0, -1)", x.wagon(0, -1), INVALID);
        due("an arrived wagon", won().wagon(0, 0), 2);
    }

    private static void ends() {
        promise = "promise 17";
        WagonLeaps x = on(".ss.i");
        due("ends(1)", x.ends(1), 1);
        due("ends(2)", x.ends(2), 4);
        due("ends(3)", x.ends(3), 4);
        due("ends(4)", x.ends(4), NOT_POSSIBLE);
        due("ends(0)", x.ends(0), INVALID);
        due("ends(5)", x.ends(5), INVALID);
        x.drive(3);
        due("ends(2), rolling over 4", x.ends(2), 5);
        due("nothing is changed", x.wagon(1, 0), 0);
        due("nothing is changed", x.count(13), 2);
        x.token();
        due("ends(1) of a lost turn", x.ends(1), NOT_POSSIBLE);
        due("ends(1) when over", won().ends(1), NOT_POSSIBLE);
        due("ends(0) when over", won().ends(0), INVALID);
        due("ends(3) at the end", on("..").ends(3), 3);
    }

    private static void worth() {
        promise = "promise 18";
        for (int way = 0; way <= 1; way++) {
            due("worth, won by one turn", on(".").worth(way), 1499);
            due("worth, lost by four", on(".", 1, 1).worth(way), 504);
            due("worth, won by five", on(".", 1, 2).worth(way), 1495);
            WagonLeaps x = on(".", 1, 2);
            x.token();
            due("worth of a lost turn", x.worth(way), 504);
            due("worth when over", won().worth(way), 500);
            x = on(".", 1, 1);
            due("worth by other settings", x.worth(way), 504);
            x.set(0, 2);
            due("worth by other settings then", x.worth(way), 1499);
            x.undo();
            due("worth by undone settings", x.worth(way), 504);
            x.set(1, 2);
            due("worth by another STOP", x.worth(way), 1495);
            due("nothing is changed", x.count(3), 0);
            x = on(".");
            due("worth of a road", x.worth(way), 1499);
            type(x, "...");
            x.road();
            due("worth of another road", x.worth(way), 504);
            x = on("m.", 1, 1);
            run(x, "t-");
            due("worth ahead of mud", x.worth(way), 504);
            x.drive(1);
            due("worth behind the mud", x.worth(way), 1497);
            x.undo();
            due("worth ahead of mud again", x.worth(way), 504);
            x.again();
            x.set(0, 2);
            x.drive(1);
            due("worth for the wagon 1", x.worth(way), 1499);
            due("worth of a long road", on(".msis..mi.").worth(way), 1489);
        }
        due("worth(2)", new WagonLeaps().worth(2), INVALID);
        due("worth(-1)", won().worth(-1), INVALID);
    }

    private static void worthOf() {
        promise = "promise 19";
        WagonLeaps x = on(".", 1, 1);
        due("worthOf(1)", x.worthOf(1), 502);
        due("worthOf(5)", x.worthOf(5), 504);
        due("worthOf(2)", x.worthOf(2), NOT_POSSIBLE);
        due("worthOf(0)", x.worthOf(0), INVALID);
        due("worthOf(6)", x.worthOf(6), INVALID);
        x.token();
        due("worthOf(1) of a lost turn", x.worthOf(1), NOT_POSSIBLE);
        x.lose();
        due("worthOf(5) without a token", x.worthOf(5), NOT_POSSIBLE);
        due("worthOf(1)", x.worthOf(1), 502);
        x = on("m..", 1, 3);
        x.drive(1);
        due("worthOf(5), never above 3 lost turns", x.worthOf(5), 1493);
        x = on("m.", 1, 1);
        run(x, "t-");
        due("worthOf(1) to mud", x.worthOf(1), 504);
        due("worthOf(2) that arrives", on(".").worthOf(2), 1499);
        due("worthOf(3) that arrives", on(".").worthOf(3), 1499);
        due("worthOf(1) when over", won().worthOf(1), NOT_POSSIBLE);
        due("worthOf(7) when over", won().worthOf(7), INVALID);
    }

    private static void bestTurn() {
        promise = "promise 20";
        WagonLeaps x = on(".", 1, 1);
        due("bestTurn()", x.bestTurn(), 5);
        due("nothing is changed", x.count(3), 0);
        x.token();
        due("bestTurn() that is lost", x.bestTurn(), 0);
        due("bestTurn(), fewer miles", on(".").bestTurn(), 2);
        due("bestTurn() when over", won().bestTurn(), NOT_POSSIBLE);
    }

    private static void count() {
        promise = "promise 21";
        WagonLeaps x = on("mm.siiims", 4, 2);
        x.drive(3);
        x.append('q');
        int[] counts = {9, 1, NOT_FOUND, 1, 3, 2, 3, 2, 0, 0, 4, 2, 1, 4};
        for (int what = 0; what < counts.length; what++) {
            due("count(" + what + ")", x.count(what), counts[what]);
        }
        due("count(14)", x.count(14), INVALID);
        due("count(-1)", x.count(-1), INVALID);
        x = won();
        due("count(1) when over", x.count(1), NOT_FOUND);
        due("count(2) when over", x.count(2), 0);
        due("count(8)", x.count(8), 1);
        x.again();
        run(x, "11");
        due("count(2)", x.count(2), 1);
        due("count(9)", x.count(9), 1);
        due("count(8)", x.count(8), 1);
        x.undo();
        due("count(9) undone", x.count(9), 0);
    }

    private static void speed() {
        promise = "promise 22";
        WagonLeaps x = new WagonLeaps();
        due("speed() at first", x.speed(), 0.0);
        run(x, "11");
        due("speed()", x.speed(), 1.5);
        run(x, "1");
        due("speed()", x.speed(), 5.0 / 3.0);
        run(x, "t-");
        due("speed() with turns that drive nobody", x.speed(), 1.0);
        x.again();
        due("speed() again", x.speed(), 0.0);
        due("speed() with the end", won().speed(), 2.0);
    }

    private static void endedIs(WagonLeaps x, int zero, int one, int winner, int turns, int place) {
        due("ended(" + zero + ", " + one + ", 0)", x.ended(zero, one, 0), winner);
        due("ended(" + zero + ", " + one + ", 1)", x.ended(zero, one, 1), turns);
        due("ended(" + zero + ", " + one + ", 2)", x.ended(zero, one, 2), place);
    }

    private static void ended() {
        promise = "promise 23";
        WagonLeaps x = on(".", 1, 2);
        endedIs(x, 0, 0, 0, 5, 0);
        endedIs(x, 0, 1, 0, 5, 0);
        endedIs(x, 1, 0, 1, 2, 1);
        endedIs(x, 1, 1, 1, 2, 1);
        due("nothing is changed", x.count(3), 0);
        x.token();
        endedIs(x, 0, 0, 0, 4, 0);
        endedIs(won(), 1, 0, 0, 0, 0);
        due("ended(2, 0, 0)", x.ended(2, 0, 0), INVALID);
        due("ended(-1, 0, 0)", x.ended(-1, 0, 0), INVALID);
        due("ended(0, 2, 0)", x.ended(0, 2, 0), INVALID);
        due("ended(0, -1, 0)", x.ended(0, -1, 0), INVALID);
        due("ended(0, 0, 3)", x.ended(0, 0, 3), INVALID);
        due("ended(0, 0, -1)", x.ended(0, 0, -1), INVALID);
    }

    private static void undo() {
        promise = "promise 24";
        WagonLeaps x = new WagonLeaps();
        due("undo()", x.undo(), NOT_POSSIBLE);
        x.drive(1);
        x.drive(2);
        x.token();
        x.lose();
        due("states", x.count(13), 4);
        x.drive(1);
        due("states at most", x.count(13), 4);
        x.append('m');
        due("undo()", x.undo(), 3);
        due("the pad stays", x.count(12), 1);
        due("undo()", x.undo(), 2);
        due("turns that 1 loses", x.wagon(1, 2), 1);
        due("undo()", x.undo(), 1);
        due("token of 0", x.wagon(0, 1), 1);
        due("used", x.wagon(0, 6), 0);
        due("undo()", x.undo(), 0);
        due("place of 1", x.wagon(1, 0), 0);
        due("mile(3, 3)", x.mile(3, 3), 0);
        due("place of 0", x.wagon(0, 0), 1);
        due("undo() of the dropped state", x.undo(), NOT_POSSIBLE);
        x = won();
        x.undo();
        due("races won by 0", x.count(8), 0);
        due("winner", x.count(2), NOT_FOUND);
        x = on(".s...");
        run(x, "1");
        run(x, "1");
        due("leaps", x.wagon(1, 5), 1);
        due("rolled", x.wagon(1, 7), 1);
        x.undo();
        due("leaps undone", x.wagon(1, 5), 0);
        due("rolled undone", x.wagon(1, 7), 0);
        due("turns undone", x.wagon(1, 3), 0);
        x = new WagonLeaps();
        x.set(0, 4);
        x.again();
        due("undo()", x.undo(), 1);
        due("races", x.count(7), 1);
        due("undo()", x.undo(), 0);
        due("PACE", x.count(10), 3);
    }

    private static void save() {
        promise = "promise 25";
        WagonLeaps x = new WagonLeaps();
        due("save()", x.save(), 0);
        run(x, "123");
        due("save() in place of the first", x.save(), 3);
        due("no change", x.count(13), 1);
        x.again();
        due("restore()", x.restore(), 3);
        x.undo();
        x.undo();
        x.undo();
        due("the snapshot is not undone", x.restore(), 3);
    }

    private static void restore() {
        promise = "promise 26";
        WagonLeaps x = new WagonLeaps();
        due("restore()", x.restore(), NOT_POSSIBLE);
        due("no change", x.count(13), 0);
        x.set(1, 2);
        x.drive(3);
        x.save();
        type(x, "mi");
        x.road();
        x.set(1, 1);
        x.append('q');
        due("restore()", x.restore(), 1);
        due("miles", x.count(0), 10);
        due("STOP", x.count(11), 2);
        due("place", x.wagon(0, 0), 3);
        due("races", x.count(7), 1);
        due("the pad stays", x.count(12), 1);
        due("the history stays", x.count(13), 4);
        due("undo()", x.undo(), 3);
        due("miles", x.count(0), 2);
        due("STOP", x.count(11), 1);
        due("restore() again", x.restore(), 1);
        due("drive(3) then", x.drive(3), 4);
        due("the snapshot stays as it was", x.restore(), 1);
        due("place of 1", x.wagon(1, 0), 0);
    }

    public static void main(String[] args) {
        constants();
        newObject();
        drive();
        token();
        lose();
        best();
        greedy();
        again();
        set();
        append();
        clear();
        fault();
        road();
        race();
        why();
        mile();
        wagon();
        ends();
        worth();
        worthOf();
        bestTurn();
        count();
        speed();
        ended();
        undo();
        save();
        restore();
        System.out.println(wrong == 0 ? "all promises hold" : wrong + " answers are not as promised");
        if (wrong != 0) {
            System.exit(1);
        }
    }
}
