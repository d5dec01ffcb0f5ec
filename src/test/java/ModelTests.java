import java.util.ArrayDeque;
import java.util.ArrayList;
import java.util.HashMap;
import java.util.List;
import java.util.Map;

/**
 * Long runs of calls, each answer compared with a slow model of the document that is written in
 * another way than the program: states are lists of numbers that are copied at each change, places
 * are gone through mile by mile, and worths are kept in a map by the absolute state.
 */
public final class ModelTests {
    private static final int RUNS = 400;
    private static final int CALLS = 512;

    private static int wrong = 0;

    /** One race with its settings: everything that a change records. */
    private static final class Stand {
        String road = "..........";
        int[] settings = {3, 1};
        int[] place = {0, 0};
        boolean[] token = {true, true};
        int[] loses = {0, 0};
        int[][] counts = new int[2][8];
        int[][] stands = new int[2][20];
        int onTurn = 0;
        int winner = -1;
        int turns = 0;
        int began = 1;
        int[] won = {0, 0};

        Stand copy() {
            Stand c = new Stand();
            c.road = road;
            c.settings = settings.clone();
            c.place = place.clone();
            c.token = token.clone();
            c.loses = loses.clone();
            c.counts = new int[][] {counts[0].clone(), counts[1].clone()};
            c.stands = new int[][] {stands[0].clone(), stands[1].clone()};
            c.onTurn = onTurn;
            c.winner = winner;
            c.turns = turns;
            c.began = began;
            c.won = won.clone();
            return c;
        }

        void restart() {
            place = new int[2];
            token = new boolean[] {true, true};
            loses = new int[2];
            counts = new int[2][8];
            stands = new int[2][20];
            onTurn = 0;
            winner = -1;
            turns = 0;
            began++;
        }

        int end() {
            return road.length() + 1;
        }

        char sign(int at) {
            return at >= 1 && at <= road.length() ? road.charAt(at - 1) : '.';
        }

        /** One step of the wagon w, leaps counted. */
        void step(int w) {
            place[w]++;
            if (place[w] == place[1 - w] && place[w] != end()) {
                place[w]++;
                counts[w][5]++;
            }
        }

        /** 0: done, otherwise the reason; turn is 0 to 5. */
        int play(int turn) {
            int w = onTurn;
            if (winner >= 0) {
                return 1;
            }
            if (loses[w] > 0 && turn != 0) {
                return 2;
            }
            if (loses[w] == 0 && turn == 0) {
                return 3;
            }
            if (turn >= 1 && turn <= 4 && turn > settings[0]) {
                return 4;
            }
            if (turn == 5 && !token[w]) {
                return 5;
            }
            if (turn == 0) {
                loses[w]--;
                counts[w][4]++;
            } else if (turn == 5) {
                token[w] = false;
                counts[w][6]++;
                loses[1 - w] += settings[1];
                if (loses[1 - w] > 3) {
                    loses[1 - w] = 3;
                }
            } else {
                playDrive(w, turn);
            }
            counts[w][3]++;
            turns++;
            onTurn = 1 - w;
            return 0;
        }

        private void playDrive(int w, int miles) {
            for (int i = 0; i < miles; i++) {
                if (place[w] < end()) {
                    step(w);
                }
            }
            boolean standing = false;
            while (!standing) {
                stands[w][place[w]]++;
                standing = true;
                if (place[w] == end()) {
                    winner = w;
                    won[w]++;
                } else if (sign(place[w]) == 'm') {
                    loses[w]++;
                } else if (sign(place[w]) == 'i') {
                    token[w] = true;
                } else if (sign(place[w]) == 's') {
                    counts[w][7]++;
                    step(w);
                    standing = false;
                }
            }
        }

        String key() {
            return road + settings[0] + settings[1] + "/" + place[0] + "," + place[1] + "," + token[0] + token[1]
                    + loses[0] + loses[1] + onTurn;
        }
    }

    private static final Map<String, Integer> KNOWN = new HashMap<>();

    /** The worth for the wagon on turn; an arrived one is the other. */
    private static int worthOfStand(Stand s) {
        if (s.winner >= 0) {
            return -500;
        }
        Integer known = KNOWN.get(s.key());
        if (known != null) {
            return known;
        }
        int greatest = Integer.MIN_VALUE;
        for (int turn = 0; turn <= 5; turn++) {
            int worth = worthOfTurn(s, turn);
            if (worth > greatest) {
                greatest = worth;
            }
        }
        KNOWN.put(s.key(), greatest);
        return greatest;
    }

    /** The worth of a turn for the wagon on turn, or the least number if it is not possible. */
    private static int worthOfTurn(Stand s, int turn) {
        Stand after = s.copy();
        if (after.play(turn) != 0) {
            return Integer.MIN_VALUE;
        }
        int others = worthOfStand(after);
        return others < 0 ? -(others + 1) : -(others - 1);
    }

    private static int bestOf(Stand s) {
        if (s.loses[s.onTurn] > 0) {
            return 0;
        }
        int greatest = worthOfStand(s);
        for (int turn = 1; turn <= 5; turn++) {
            if (worthOfTurn(s, turn) == greatest) {
                return turn;
            }
        }
        return -99;
    }

    private static int greedyOf(Stand s) {
        if (s.loses[s.onTurn] > 0) {
            return 0;
        }
        int far = -1;
        int turn = -99;
        for (int miles = s.settings[0]; miles >= 1; miles--) {
            Stand after = s.copy();
            after.play(miles);
            if (after.place[s.onTurn] >= far) {
                far = after.place[s.onTurn];
                turn = miles;
            }
        }
        return turn;
    }

    /** The whole object, as the document tells it. */
    private static final class Model {
        Stand now = new Stand();
        Stand saved = null;
        ArrayDeque<Stand> history = new ArrayDeque<>();
        StringBuilder pad = new StringBuilder();
        int stopAt = -1;
        int stopWhy = 0;

        void record() {
            history.addLast(now.copy());
            if (history.size() == 5) {
                history.removeFirst();
            }
        }

        int playChange(int turn) {
            Stand before = now.copy();
            if (now.play(turn) != 0) {
                return -2;
            }
            history.addLast(before);
            if (history.size() == 5) {
                history.removeFirst();
            }
            return turn;
        }

        int fault(int way) {
            String signs = way == 0 ? ".msi" : "1234tbg-";
            int most = way == 0 ? 14 : Integer.MAX_VALUE;
            for (int i = 0; i < pad.length(); i++) {
                if (i >= most || signs.indexOf(pad.charAt(i)) < 0) {
                    return i;
                }
            }
            return pad.length() == 0 ? 0 : -4;
        }

        int race() {
            if (fault(1) != -4) {
                return -2;
            }
            record();
            stopAt = -1;
            stopWhy = 0;
            int made = 0;
            for (char c : pad.toString().toCharArray()) {
                int turn = c == 't' ? 5 : c == '-' ? 0 : c - '0';
                if (c == 'b') {
                    turn = now.winner >= 0 ? 1 : bestOf(now);
                } else if (c == 'g') {
                    turn = now.winner >= 0 ? 1 : greedyOf(now);
                }
                int reason = now.play(turn);
                if (reason != 0) {
                    stopAt = made;
                    stopWhy = reason;
                    break;
                }
                made++;
            }
            pad.setLength(0);
            return made;
        }

        int ended(int zero, int one, int what) {
            if (zero < 0 || zero > 1 || one < 0 || one > 1 || what < 0 || what > 2) {
                return -1;
            }
            Stand s = now.copy();
            while (s.winner < 0) {
                boolean greed = (s.onTurn == 0 ? zero : one) == 1;
                s.play(greed ? greedyOf(s) : bestOf(s));
            }
            return what == 0 ? s.winner : what == 1 ? s.turns - now.turns : s.place[1 - s.winner];
        }

        int count(int what) {
            int[] kinds = new int[128];
            for (char c : now.road.toCharArray()) {
                kinds[c]++;
            }
            List<Integer> all = List.of(now.road.length(), now.winner >= 0 ? -4 : now.onTurn,
                    now.winner >= 0 ? now.winner : -4, now.turns, kinds['m'], kinds['s'], kinds['i'], now.began);
            List<Integer> more = List.of(now.won[0], now.won[1], now.settings[0], now.settings[1], pad.length(),
                    history.size());
            List<Integer> joined = new ArrayList<>(all);
            joined.addAll(more);
            return what < 0 || what > 13 ? -1 : joined.get(what);
        }

        int mile(int mile, int what) {
            if (mile < 1 || mile > now.road.length() || what < 0 || what > 3) {
                return -1;
            }
            if (what == 0) {
                return ".msi".indexOf(now.road.charAt(mile - 1));
            }
            if (what == 1) {
                return now.place[0] == mile ? 0 : now.place[1] == mile ? 1 : -4;
            }
            return now.stands[what - 2][mile];
        }

        int wagon(int wagon, int what) {
            if (wagon < 0 || wagon > 1 || what < 0 || what > 7) {
                return -1;
            }
            if (what == 0) {
                return now.place[wagon];
            }
            if (what == 1) {
                return now.token[wagon] ? 1 : 0;
            }
            return what == 2 ? now.loses[wagon] : now.counts[wagon][what];
        }
    }

    private static long seed;

    /** The same numbers at each run, so that a wrong answer can be found again. */
    private static int pick(int bound) {
        seed = seed * 6364136223846793005L + 1442695040888963407L;
        return (int) ((seed >>> 33) % bound);
    }

    private static void same(int run, int call, String what, double got, double want) {
        if (got != want) {
            wrong++;
            if (wrong < 20) {
                System.out.println("run " + run + ", call " + call + ": " + what + " answered " + got + ", due is "
                        + want);
            }
        }
    }

    private static int oneCall(WagonLeaps x, Model m, int run, int call) {
        int mover = m.now.onTurn;
        int a = pick(7) - 1;
        int b = pick(16) - 1;
        switch (pick(30)) {
            case 0: case 1: case 2: {
                int want = a < 1 || a > 4 ? -1 : m.playChange(a);
                same(run, call, "drive " + a, x.drive(a), want < 0 ? want : m.now.place[mover]);
                return 1;
            }
            case 3: {
                int want = m.playChange(5);
                same(run, call, "token", x.token(), want < 0 ? want : m.now.loses[1 - mover]);
                return 1;
            }
            case 4: {
                int want = m.playChange(0);
                same(run, call, "lose", x.lose(), want < 0 ? want : m.now.loses[mover]);
                return 1;
            }
            case 5: {
                int want = m.now.winner >= 0 ? -2 : m.playChange(bestOf(m.now));
                same(run, call, "best", x.best(), want);
                return 1;
            }
            case 6: {
                int want = m.now.winner >= 0 ? -2 : m.playChange(greedyOf(m.now));
                same(run, call, "greedy", x.greedy(), want);
                return 1;
            }
            case 7: {
                if (pick(3) == 0 || m.now.winner >= 0) {
                    m.record();
                    m.now.restart();
                    same(run, call, "again", x.again(), m.now.road.length());
                }
                return 1;
            }
            case 8: {
                int what = pick(4) - 1;
                boolean right = what == 0 && a >= 1 && a <= 4 || what == 1 && a >= 1 && a <= 3;
                int want = right ? m.now.settings[what] : -1;
                if (right) {
                    m.record();
                    m.now.settings[what] = a;
                }
                same(run, call, "set " + what + " " + a, x.set(what, a), want);
                return 1;
            }
            case 9: return text(x, m, run, call, ".msi", pick(17), 0);
            case 10: case 11: return text(x, m, run, call, "1234tbg-", pick(12), 1);
            case 12: return text(x, m, run, call, "bgt1", pick(62), 1);
            case 13: {
                int want = m.pad.length();
                m.pad.setLength(0);
                same(run, call, "clear", x.clear(), want);
                return 1;
            }
            case 14: {
                int want = a == 0 ? (m.stopWhy == 0 ? -4 : m.stopAt) : a == 1 ? (m.stopWhy == 0 ? -4 : m.stopWhy) : -1;
                same(run, call, "why " + a, x.why(a), want);
                return 1;
            }
            case 15: case 16: same(run, call, "mile " + b + " " + a, x.mile(b, a), m.mile(b, a)); return 1;
            case 17: case 18: {
                int w = pick(4) - 1;
                int what = pick(10) - 1;
                same(run, call, "wagon " + w + " " + what, x.wagon(w, what), m.wagon(w, what));
                return 1;
            }
            case 19: {
                Stand s = m.now.copy();
                int want = a < 1 || a > 4 ? -1 : s.play(a) != 0 ? -2 : s.place[mover];
                same(run, call, "ends " + a, x.ends(a), want);
                return 1;
            }
            case 20: {
                int want = a < 0 || a > 1 ? -1 : m.now.winner >= 0 ? 500 : 1000 + worthOfStand(m.now);
                same(run, call, "worth " + a, x.worth(a), want);
                return 1;
            }
            case 21: {
                int worth = a < 1 || a > 5 ? 0 : worthOfTurn(m.now, a);
                int want = a < 1 || a > 5 ? -1 : worth == Integer.MIN_VALUE ? -2 : 1000 + worth;
                same(run, call, "worthOf " + a, x.worthOf(a), want);
                return 1;
            }
            case 22: {
                same(run, call, "bestTurn", x.bestTurn(), m.now.winner >= 0 ? -2 : bestOf(m.now));
                return 1;
            }
            case 23: case 24: same(run, call, "count " + b, x.count(b), m.count(b)); return 1;
            case 25: {
                double sum = m.now.place[0] + m.now.place[1];
                same(run, call, "speed", x.speed(), m.now.turns == 0 ? 0.0 : sum / m.now.turns);
                return 1;
            }
            case 26: {
                int zero = pick(9) == 0 ? a : pick(2);
                int one = pick(9) == 0 ? b : pick(2);
                int what = pick(9) == 0 ? a : pick(3);
                same(run, call, "ended " + zero + " " + one + " " + what, x.ended(zero, one, what),
                        m.ended(zero, one, what));
                return 1;
            }
            case 27: {
                if (!m.history.isEmpty()) {
                    m.now = m.history.removeLast();
                    same(run, call, "undo", x.undo(), m.history.size());
                } else {
                    same(run, call, "undo", x.undo(), -2);
                }
                return 1;
            }
            case 28: {
                m.saved = m.now.copy();
                same(run, call, "save", x.save(), m.now.turns);
                return 1;
            }
            default: {
                int want = m.saved == null ? -2 : m.saved.turns;
                if (m.saved != null) {
                    m.record();
                    m.now = m.saved.copy();
                }
                same(run, call, "restore", x.restore(), want);
                return 1;
            }
        }
    }

    /** Puts a text on the pad, mostly a right one, looks at its fault, and reads it. */
    private static int text(WagonLeaps x, Model m, int run, int call, String signs, int length, int way) {
        int calls = 0;
        if (pick(4) != 0) {
            m.pad.setLength(0);
            x.clear();
            calls++;
        }
        for (int i = 0; i < length; i++) {
            int code = pick(60) == 0 ? 30 + pick(99) : signs.charAt(pick(signs.length()));
            int want = code < 33 || code > 126 ? -1 : m.pad.length() == 60 ? -3 : m.pad.length() + 1;
            if (want > 0) {
                m.pad.append((char) code);
            }
            same(run, call, "append " + code, x.append(code), want);
            calls++;
        }
        int other = pick(5) - 2;
        same(run, call, "fault " + other, x.fault(other), other < 0 || other > 1 ? -1 : m.fault(other));
        same(run, call, "fault " + way, x.fault(way), m.fault(way));
        if (way == 0) {
            int want = m.fault(0) == -4 ? m.pad.length() : -2;
            if (want > 0) {
                m.record();
                m.now.road = m.pad.toString();
                m.pad.setLength(0);
                m.now.restart();
            }
            same(run, call, "road", x.road(), want);
        } else {
            same(run, call, "race", x.race(), m.race());
        }
        return calls + 3;
    }

    public static void main(String[] args) {
        for (int run = 0; run < RUNS; run++) {
            seed = 1000003L * run + 17;
            KNOWN.clear();
            WagonLeaps x = new WagonLeaps();
            Model m = new Model();
            int call = 0;
            while (call < CALLS - 70) {
                call += oneCall(x, m, run, call);
            }
            for (int what = 0; what <= 13; what++) {
                same(run, call, "count " + what + " at last", x.count(what), m.count(what));
            }
        }
        System.out.println(wrong == 0 ? "all answers are as the model's" : wrong + " answers are not as the model's");
        if (wrong != 0) {
            System.exit(1);
        }
    }
}
