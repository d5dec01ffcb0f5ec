/**
 * Leapfrog of wagons, each of which may stop the others once. The document ../shared/DOC.md says
 * what each call answers.
 */
public final class WagonLeaps {
    public static final int INVALID_ARGUMENT = -1;
    public static final int NOT_POSSIBLE = -2;
    public static final int LIMIT_REACHED = -3;
    public static final int NOT_FOUND = -4;
    public static final int PACE = 0, STOP = 1;

    private static final int MOST_MILES = 14;
    private static final int FIRST_MILES = 10;
    private static final int MOST_PACE = 4;
    private static final int FIRST_PACE = 3;
    private static final int MOST_STOP = 3;
    private static final int FIRST_STOP = 1;
    private static final int MOST_LOST = 3;

    private static final int PLAIN = 0, MUDDY = 1, STEEP = 2, INN = 3, NO_KIND = -1;

    /** Turns are numbers everywhere: 0 is a lost one, 1 to 4 drives of so many miles, 5 the token. */
    private static final int LOST_TURN = 0, TOKEN_TURN = 5;

    /** Why a turn is not possible, by the numbers of why(). */
    private static final int POSSIBLE = 0, OVER = 1, LOSES_TURN = 2, LOSES_NONE = 3, ABOVE_PACE = 4, NO_TOKEN = 5;

    private static final int AS_ROAD = 0, AS_TURNS = 1;
    private static final int BEST_TURNS = 0, BY_GREED = 1;
    private static final int TOLD_INTO = 0, TOLD_BY_SWEEPS = 1;

    /** No race has so many turns: at most 30 drives, 30 tokens, and 3 turns lost by each of them. */
    private static final int MOST_TURNS = 1000;

    private final Race now = new Race();
    private final Race imagined = new Race();
    private final Race snapshot = new Race();
    private final History history = new History();
    private final Pad pad = new Pad();
    private final Worths worths = new Worths();
    private boolean hasSnapshot;
    private int stopPosition;
    private int stopReason;

    public WagonLeaps() {
        hasSnapshot = false;
        stopPosition = 0;
        stopReason = POSSIBLE;
    }

    // ---- turns

    public int drive(int miles) {
        if (miles < 1 || miles > MOST_PACE) {
            return INVALID_ARGUMENT;
        }
        if (now.refusal(miles) != POSSIBLE) {
            return NOT_POSSIBLE;
        }
        Wagon driver = now.mover();
        makeAsChange(miles);
        return driver.place;
    }

    public int token() {
        if (now.refusal(TOKEN_TURN) != POSSIBLE) {
            return NOT_POSSIBLE;
        }
        Wagon stopped = now.waiting();
        makeAsChange(TOKEN_TURN);
        return stopped.loses;
    }

    public int lose() {
        if (now.refusal(LOST_TURN) != POSSIBLE) {
            return NOT_POSSIBLE;
        }
        Wagon loser = now.mover();
        makeAsChange(LOST_TURN);
        return loser.loses;
    }

    public int best() {
        if (now.isOver()) {
            return NOT_POSSIBLE;
        }
        int turn = preparedWorths().bestOf(now);
        makeAsChange(turn);
        return turn;
    }

    public int greedy() {
        if (now.isOver()) {
            return NOT_POSSIBLE;
        }
        int turn = now.greediest();
        makeAsChange(turn);
        return turn;
    }

    public int again() {
        history.record(now);
        now.begin();
        return now.way.miles;
    }

    public int set(int what, int value) {
        if (what == PACE && value >= 1 && value <= MOST_PACE) {
            int before = now.pace;
            history.record(now);
            now.pace = value;
            return before;
        }
        if (what == STOP && value >= 1 && value <= MOST_STOP) {
            int before = now.stop;
            history.record(now);
            now.stop = value;
            return before;
        }
        return INVALID_ARGUMENT;
    }

    // ---- texts

    public int append(int code) {
        if (code < 33 || code > 126) {
            return INVALID_ARGUMENT;
        }
        return pad.isFull() ? LIMIT_REACHED : pad.add(code);
    }

    public int clear() {
        return pad.empty();
    }

    public int fault(int way) {
        if (way != AS_ROAD && way != AS_TURNS) {
            return INVALID_ARGUMENT;
        }
        return pad.firstFault(way);
    }

    public int road() {
        if (pad.firstFault(AS_ROAD) != NOT_FOUND) {
            return NOT_POSSIBLE;
        }
        history.record(now);
        pad.layOut(now.way);
        pad.empty();
        now.begin();
        return now.way.miles;
    }

    public int race() {
        if (pad.firstFault(AS_TURNS) != NOT_FOUND) {
            return NOT_POSSIBLE;
        }
        history.record(now);
        stopReason = POSSIBLE;
        int made = 0;
        for (int position = 0; position < pad.length && stopReason == POSSIBLE; position++) {
            int turn = turnMeant(pad.signAt(position));
            stopReason = now.refusal(turn);
            if (stopReason == POSSIBLE) {
                now.make(turn);
                made++;
            } else {
                stopPosition = position;
            }
        }
        pad.empty();
        return made;
    }

    public int why(int what) {
        if (what != 0 && what != 1) {
            return INVALID_ARGUMENT;
        }
        if (stopReason == POSSIBLE) {
            return NOT_FOUND;
        }
        return what == 0 ? stopPosition : stopReason;
    }

    // ---- looks; nothing is changed

    public int mile(int mile, int what) {
        if (mile < 1 || mile > now.way.miles) {
            return INVALID_ARGUMENT;
        }
        switch (what) {
            case 0: return now.way.kindOf(mile);
            case 1: return now.wagonOn(mile);
            case 2: return at(now.zero.stands, mile);
            case 3: return at(now.one.stands, mile);
            default: return INVALID_ARGUMENT;
        }
    }

    public int wagon(int wagon, int what) {
        if (wagon != 0 && wagon != 1) {
            return INVALID_ARGUMENT;
        }
        return wagon == 0 ? now.zero.property(what) : now.one.property(what);
    }

    public int ends(int miles) {
        if (miles < 1 || miles > MOST_PACE) {
            return INVALID_ARGUMENT;
        }
        if (now.refusal(miles) != POSSIBLE) {
            return NOT_POSSIBLE;
        }
        return now.way.rest(now.mover().place, now.waiting().place, miles);
    }

    public int worth(int way) {
        if (way != TOLD_INTO && way != TOLD_BY_SWEEPS) {
            return INVALID_ARGUMENT;
        }
        if (now.isOver()) {
            return 500;
        }
        Worths told = preparedWorths();
        return 1000 + (way == TOLD_INTO ? told.toldInto(now) : told.toldBySweeps(now));
    }

    public int worthOf(int turn) {
        if (turn < 1 || turn > TOKEN_TURN) {
            return INVALID_ARGUMENT;
        }
        if (now.refusal(turn) != POSSIBLE) {
            return NOT_POSSIBLE;
        }
        return 1000 + preparedWorths().ofTurn(now, turn);
    }

    public int bestTurn() {
        return now.isOver() ? NOT_POSSIBLE : preparedWorths().bestOf(now);
    }

    public int count(int what) {
        switch (what) {
            case 0: return now.way.miles;
            case 1: return now.isOver() ? NOT_FOUND : now.onTurn;
            case 2: return now.winner;
            case 3: return now.turns;
            case 4: return now.way.howMany(MUDDY);
            case 5: return now.way.howMany(STEEP);
            case 6: return now.way.howMany(INN);
            case 7: return now.began;
            case 8: return now.wonByZero;
            case 9: return now.wonByOne;
            case 10: return now.pace;
            case 11: return now.stop;
            case 12: return pad.length;
            case 13: return history.states;
            default: return INVALID_ARGUMENT;
        }
    }

    public double speed() {
        if (now.turns == 0) {
            return 0.0;
        }
        return (double) (now.zero.place + now.one.place) / (double) now.turns;
    }

    // ---- what would be; nothing is changed

    public int ended(int zero, int one, int what) {
        if (zero != BEST_TURNS && zero != BY_GREED || one != BEST_TURNS && one != BY_GREED) {
            return INVALID_ARGUMENT;
        }
        if (what < 0 || what > 2) {
            return INVALID_ARGUMENT;
        }
        imagined.takeOver(now);
        Worths told = preparedWorths();
        for (int made = 0; made < MOST_TURNS && !imagined.isOver(); made++) {
            int manner = imagined.onTurn == 0 ? zero : one;
            imagined.make(manner == BY_GREED ? imagined.greediest() : told.bestOf(imagined));
        }
        if (what == 0) {
            return imagined.winner;
        }
        if (what == 1) {
            return imagined.turns - now.turns;
        }
        return imagined.winner == 0 ? imagined.one.place : imagined.zero.place;
    }

    // ---- history, snapshot

    public int undo() {
        return history.takeBack(now) ? history.states : NOT_POSSIBLE;
    }

    public int save() {
        snapshot.takeOver(now);
        hasSnapshot = true;
        return now.turns;
    }

    public int restore() {
        if (!hasSnapshot) {
            return NOT_POSSIBLE;
        }
        history.record(now);
        now.takeOver(snapshot);
        return now.turns;
    }

    // ---- inside

    private void makeAsChange(int turn) {
        history.record(now);
        now.make(turn);
    }

    /** The worths by the road and the settings of the present race. */
    private Worths preparedWorths() {
        worths.prepare(now);
        return worths;
    }

    /** The turn that a sign of a text of turns means now; any one where the race is over. */
    private int turnMeant(int sign) {
        if (sign >= '1' && sign <= '4') {
            return sign - '0';
        }
        if (sign == 't') {
            return TOKEN_TURN;
        }
        if (sign == '-' || now.isOver()) {
            return LOST_TURN;
        }
        return sign == 'g' ? now.greediest() : preparedWorths().bestOf(now);
    }

    private static int at(int[] row, int index) {
        return index >= 0 && index < row.length ? row[index] : 0;
    }

    private static void put(int[] row, int index, int value) {
        if (index >= 0 && index < row.length) {
            row[index] = value;
        }
    }

    private static void copyRow(int[] from, int[] to) {
        for (int i = 0; i < from.length && i < to.length; i++) {
            to[i] = from[i];
        }
    }

    private static void fillRow(int[] row, int value) {
        for (int i = 0; i < row.length; i++) {
            row[i] = value;
        }
    }

    /** The miles from 1 on; the place 0 is ahead of them, the end behind them. */
    private static final class Road {
        private final int[] kinds = new int[MOST_MILES + 1];
        private int miles = FIRST_MILES;

        void takeOver(Road other) {
            copyRow(other.kinds, kinds);
            miles = other.miles;
        }

        boolean isLike(Road other) {
            boolean like = miles == other.miles;
            for (int mile = 1; mile <= MOST_MILES && mile <= miles && like; mile++) {
                like = kindOf(mile) == other.kindOf(mile);
            }
            return like;
        }

        /** What a place is; the two places off the road are plain. */
        int kindOf(int place) {
            return place >= 1 && place <= miles && place < kinds.length ? kinds[place] : PLAIN;
        }

        int howMany(int kind) {
            int found = 0;
            for (int mile = 1; mile <= MOST_MILES && mile <= miles; mile++) {
                if (kindOf(mile) == kind) {
                    found++;
                }
            }
            return found;
        }

        boolean isEnd(int place) {
            return place > miles;
        }

        int next(int place, int other) {
            return place + 1 == other ? place + 2 : place + 1;
        }

        /** Where a drive comes to stand first, not yet rolled on. */
        int landing(int from, int other, int drive) {
            boolean leaps = from < other && other <= from + drive;
            int place = leaps ? from + drive + 1 : from + drive;
            return place > miles ? miles + 1 : place;
        }

        /** Where a drive comes to stand at last. */
        int rest(int from, int other, int drive) {
            int place = landing(from, other, drive);
            for (int rolled = 0; rolled < MOST_MILES && kindOf(place) == STEEP; rolled++) {
                place = next(place, other);
            }
            return place;
        }
    }

    private static final class Wagon {
        private final int[] stands = new int[MOST_MILES + 1];
        private int place;
        private boolean hasToken;
        private int loses;
        private int turns;
        private int lost;
        private int leaps;
        private int used;
        private int rolled;

        void begin() {
            fillRow(stands, 0);
            place = 0;
            hasToken = true;
            loses = 0;
            turns = 0;
            lost = 0;
            leaps = 0;
            used = 0;
            rolled = 0;
        }

        void takeOver(Wagon other) {
            copyRow(other.stands, stands);
            place = other.place;
            hasToken = other.hasToken;
            loses = other.loses;
            turns = other.turns;
            lost = other.lost;
            leaps = other.leaps;
            used = other.used;
            rolled = other.rolled;
        }

        int property(int what) {
            switch (what) {
                case 0: return place;
                case 1: return hasToken ? 1 : 0;
                case 2: return loses;
                case 3: return turns;
                case 4: return lost;
                case 5: return leaps;
                case 6: return used;
                case 7: return rolled;
                default: return INVALID_ARGUMENT;
            }
        }

        void standOn(int where) {
            place = where;
            put(stands, where, at(stands, where) + 1);
        }

        void driveOn(Road way, int other, int miles) {
            int from = place;
            standOn(way.landing(from, other, miles));
            for (int i = 0; i < MOST_MILES && way.kindOf(place) == STEEP; i++) {
                standOn(way.next(place, other));
                rolled++;
            }
            // Nothing but a leap brings it by the other wagon.
            if (from < other && other < place) {
                leaps++;
            }
            if (way.kindOf(place) == MUDDY) {
                loses++;
            }
            if (way.kindOf(place) == INN) {
                hasToken = true;
            }
        }

        void stopOther(Wagon other, int stop) {
            hasToken = false;
            used++;
            other.loses = Math.min(MOST_LOST, other.loses + stop);
        }

        void loseTurn() {
            loses--;
            lost++;
        }
    }

    /** All that a change records: the road, the settings, both wagons, and the numbers of races. */
    private static final class Race {
        private final Road way = new Road();
        private final Wagon zero = new Wagon();
        private final Wagon one = new Wagon();
        private int pace = FIRST_PACE;
        private int stop = FIRST_STOP;
        private int onTurn;
        private int winner;
        private int turns;
        private int began = 0;
        private int wonByZero = 0;
        private int wonByOne = 0;

        Race() {
            begin();
        }

        void begin() {
            zero.begin();
            one.begin();
            onTurn = 0;
            winner = NOT_FOUND;
            turns = 0;
            began++;
        }

        void takeOver(Race other) {
            way.takeOver(other.way);
            zero.takeOver(other.zero);
            one.takeOver(other.one);
            pace = other.pace;
            stop = other.stop;
            onTurn = other.onTurn;
            winner = other.winner;
            turns = other.turns;
            began = other.began;
            wonByZero = other.wonByZero;
            wonByOne = other.wonByOne;
        }

        boolean isOver() {
            return winner != NOT_FOUND;
        }

        Wagon mover() {
            return onTurn == 0 ? zero : one;
        }

        Wagon waiting() {
            return onTurn == 0 ? one : zero;
        }

        int wagonOn(int mile) {
            if (zero.place == mile) {
                return 0;
            }
            return one.place == mile ? 1 : NOT_FOUND;
        }

        /** Why a turn is not possible now, the first reason that is so. */
        int refusal(int turn) {
            if (isOver()) {
                return OVER;
            }
            if (mover().loses > 0) {
                return turn == LOST_TURN ? POSSIBLE : LOSES_TURN;
            }
            if (turn == LOST_TURN) {
                return LOSES_NONE;
            }
            if (turn == TOKEN_TURN) {
                return mover().hasToken ? POSSIBLE : NO_TOKEN;
            }
            return turn > pace ? ABOVE_PACE : POSSIBLE;
        }

        /** Makes a turn that is possible. */
        void make(int turn) {
            Wagon own = mover();
            if (turn == LOST_TURN) {
                own.loseTurn();
            } else if (turn == TOKEN_TURN) {
                own.stopOther(waiting(), stop);
            } else {
                own.driveOn(way, waiting().place, turn);
            }
            own.turns++;
            turns++;
            if (way.isEnd(own.place)) {
                arrive();
            }
            onTurn = 1 - onTurn;
        }

        private void arrive() {
            winner = onTurn;
            if (winner == 0) {
                wonByZero++;
            } else {
                wonByOne++;
            }
        }

        /** The turn by greed, or the lost one. */
        int greediest() {
            Wagon own = mover();
            if (own.loses > 0) {
                return LOST_TURN;
            }
            int drive = 1;
            int farthest = -1;
            for (int miles = 1; miles <= MOST_PACE && miles <= pace; miles++) {
                int place = way.rest(own.place, waiting().place, miles);
                if (place > farthest) {
                    farthest = place;
                    drive = miles;
                }
            }
            return drive;
        }
    }

    /** The states before the latest changes; its rows are made once and used again in a ring. */
    private static final class History {
        private static final int MOST_STATES = 4;
        private final Race[] rows = new Race[MOST_STATES];
        private int first = 0;
        private int states = 0;

        History() {
            for (int i = 0; i < rows.length; i++) {
                rows[i] = new Race();
            }
        }

        private Race row(int number) {
            int index = Math.floorMod(first + number, MOST_STATES);
            return index >= 0 && index < rows.length ? rows[index] : null;
        }

        void record(Race race) {
            if (states == MOST_STATES) {
                first = Math.floorMod(first + 1, MOST_STATES);
                states--;
            }
            Race row = row(states);
            if (row != null) {
                row.takeOver(race);
                states++;
            }
        }

        /** Puts the latest state into the race; false if there is none. */
        boolean takeBack(Race race) {
            Race row = states > 0 ? row(states - 1) : null;
            if (row == null) {
                return false;
            }
            race.takeOver(row);
            states--;
            return true;
        }
    }

    private static final class Pad {
        private static final int MOST_SIGNS = 60;
        private final int[] signs = new int[MOST_SIGNS];
        private int length = 0;

        boolean isFull() {
            return length >= MOST_SIGNS;
        }

        int add(int sign) {
            put(signs, length, sign);
            length++;
            return length;
        }

        int empty() {
            int before = length;
            length = 0;
            return before;
        }

        int signAt(int position) {
            return at(signs, position);
        }

        /** The fault, read in one of the two ways, or NOT_FOUND. */
        int firstFault(int reading) {
            for (int position = 0; position < length; position++) {
                int sign = signAt(position);
                boolean right = reading == AS_ROAD
                        ? position < MOST_MILES && kindMeant(sign) != NO_KIND
                        : isTurn(sign);
                if (!right) {
                    return position;
                }
            }
            return length == 0 ? 0 : NOT_FOUND;
        }

        /** Makes the pad, which has no fault as a road, the road. */
        void layOut(Road way) {
            way.miles = Math.min(length, MOST_MILES);
            for (int mile = 1; mile <= MOST_MILES && mile <= length; mile++) {
                put(way.kinds, mile, kindMeant(signAt(mile - 1)));
            }
        }

        private static int kindMeant(int sign) {
            switch (sign) {
                case '.': return PLAIN;
                case 'm': return MUDDY;
                case 's': return STEEP;
                case 'i': return INN;
                default: return NO_KIND;
            }
        }

        private static boolean isTurn(int sign) {
            return sign >= '1' && sign <= '4' || sign == 't' || sign == 'b' || sign == 'g' || sign == '-';
        }
    }

    /**
     * What races are worth. A stand is a race that is not over, seen by the wagon on turn, as a
     * number of bits: its own place (4) and the other's (4), whether it has its token (1) and the
     * other (1), the turns that it loses (2) and the other (2). Which wagon it is does not matter.
     * What is told stays good as long as the road and the settings do.
     */
    private static final class Worths {
        private static final int STANDS = 1 << 14;
        private static final int TAILS = 1 << 6;
        private static final int UNTOLD = 0;
        /** A number that no worth is. */
        private static final int GUESS = 1000;
        private static final int ARRIVED = -1;
        private static final int WON = 500;
        /** A level is a drive or a token: two wagons make at most 30 of each in a race. */
        private static final int DEEPEST = 64;
        private static final int MOST_SWEEPS = 1000;

        private final Road way = new Road();
        private final int[] rests = new int[1 << 10];
        private final int[] tails = new int[TAILS];
        private final int[] told = new int[STANDS];
        private final int[] swept = new int[STANDS];
        private final int[] coming = new int[STANDS];
        private int gathered = 0;
        private int pace = 0;
        private int stop = 0;

        Worths() {
            orderTails();
        }

        /** By turns that move nobody the tokens become fewer, or they stay and the lost turns do: so the order. */
        private void orderTails() {
            int filled = 0;
            for (int tokens = 0; tokens <= 2; tokens++) {
                for (int lost = 0; lost <= 2 * MOST_LOST; lost++) {
                    for (int tail = 0; tail < TAILS; tail++) {
                        if (Integer.bitCount(tail >> 4) == tokens && ownLoses(tail) + otherLoses(tail) == lost) {
                            put(tails, filled, tail);
                            filled++;
                        }
                    }
                }
            }
        }

        /** Forgets what was told, if it was told for another road or by other settings. */
        void prepare(Race race) {
            if (pace == race.pace && stop == race.stop && way.isLike(race.way)) {
                return;
            }
            pace = race.pace;
            stop = race.stop;
            way.takeOver(race.way);
            fillRests();
            fillRow(told, UNTOLD);
            fillRow(swept, UNTOLD);
        }

        private void fillRests() {
            for (int own = 0; own <= MOST_MILES && own <= way.miles; own++) {
                for (int other = 0; other <= MOST_MILES && other <= way.miles; other++) {
                    for (int drive = 1; drive <= MOST_PACE; drive++) {
                        put(rests, own << 6 | other << 2 | drive - 1, way.rest(own, other, drive));
                    }
                }
            }
        }

        int toldInto(Race race) {
            return tellInto(standOf(race), 0);
        }

        int toldBySweeps(Race race) {
            int stand = standOf(race);
            boolean changed = at(swept, stand) == UNTOLD;
            if (changed) {
                gather(stand);
            }
            for (int i = 0; i < MOST_SWEEPS && changed; i++) {
                changed = sweep();
            }
            return at(swept, stand);
        }

        /** The worth of a turn that is possible. */
        int ofTurn(Race race, int turn) {
            int stand = standOf(race);
            int next = after(stand, turn);
            if (next != ARRIVED) {
                tellInto(next, 0);
            }
            return worthBy(told, stand, turn);
        }

        /** The best turn of a race that is not over; drives are looked at ahead of the token. */
        int bestOf(Race race) {
            int stand = standOf(race);
            if (ownLoses(stand) > 0) {
                return LOST_TURN;
            }
            int greatest = tellInto(stand, 0);
            for (int turn = 1; turn < TOKEN_TURN; turn++) {
                if (isPossible(stand, turn) && worthBy(told, stand, turn) == greatest) {
                    return turn;
                }
            }
            return TOKEN_TURN;
        }

        /** Tells a stand by going into each turn from it; lost turns are gone through at once. */
        private int tellInto(int stand, int depth) {
            if (at(told, stand) != UNTOLD || depth > DEEPEST) {
                return at(told, stand);
            }
            int free = stand;
            int lost = 0;
            for (; lost < 2 * MOST_LOST && ownLoses(free) > 0; lost++) {
                free = after(free, LOST_TURN);
            }
            if (at(told, free) == UNTOLD) {
                put(told, free, greatestInto(free, depth + 1));
            }
            int worth = at(told, free);
            for (int back = 0; back < lost; back++) {
                worth = oneTurnBefore(worth);
            }
            put(told, stand, worth);
            return worth;
        }

        private int greatestInto(int stand, int depth) {
            int greatest = -WON;
            for (int turn = 1; turn <= TOKEN_TURN; turn++) {
                if (isPossible(stand, turn)) {
                    int next = after(stand, turn);
                    int others = next == ARRIVED ? -WON : tellInto(next, depth);
                    greatest = Math.max(greatest, oneTurnBefore(others));
                }
            }
            return greatest;
        }

        /** Lists the stands that could be from a stand on and have no number yet, each ahead of those after it. */
        private void gather(int start) {
            gathered = 0;
            put(swept, start, GUESS);
            for (int sum = 0; sum <= 2 * way.miles; sum++) {
                for (int i = TAILS - 1; i >= 0; i--) {
                    for (int own = 0; own <= way.miles && own <= sum; own++) {
                        int stand = own << 10 | (sum - own & 15) << 6 | at(tails, i);
                        if (sum - own <= way.miles && at(swept, stand) == GUESS) {
                            put(coming, gathered, stand);
                            gathered++;
                            guessAllAfter(stand);
                        }
                    }
                }
            }
        }

        private void guessAllAfter(int stand) {
            for (int turn = LOST_TURN; turn <= TOKEN_TURN; turn++) {
                int next = isPossible(stand, turn) ? after(stand, turn) : ARRIVED;
                if (next != ARRIVED && at(swept, next) == UNTOLD) {
                    put(swept, next, GUESS);
                }
            }
        }

        /** Tells all stands of the list once, the last ones first; whether a number became another one. */
        private boolean sweep() {
            boolean changed = false;
            for (int i = gathered - 1; i >= 0; i--) {
                int stand = at(coming, i);
                int worth = greatestSwept(stand);
                changed = changed || worth != at(swept, stand);
                put(swept, stand, worth);
            }
            return changed;
        }

        /** The worth of a stand by what the sweeps have told so far of the stands after it. */
        private int greatestSwept(int stand) {
            int greatest = -WON;
            for (int turn = LOST_TURN; turn <= TOKEN_TURN; turn++) {
                if (isPossible(stand, turn)) {
                    greatest = Math.max(greatest, worthBy(swept, stand, turn));
                }
            }
            return greatest;
        }

        /** The worth of a turn by what a row tells of the stand after it. */
        private int worthBy(int[] row, int stand, int turn) {
            int next = after(stand, turn);
            return oneTurnBefore(next == ARRIVED ? -WON : at(row, next));
        }

        /** The worth for the wagon that makes a turn, of what it is worth for the other one then. */
        private static int oneTurnBefore(int worth) {
            return worth < 0 ? -worth - 1 : 1 - worth;
        }

        private boolean isPossible(int stand, int turn) {
            if (turn == LOST_TURN || ownLoses(stand) > 0) {
                return turn == LOST_TURN && ownLoses(stand) > 0;
            }
            return turn == TOKEN_TURN ? (stand >> 5 & 1) == 1 : turn <= pace;
        }

        /** The stand after a turn, or ARRIVED. */
        private int after(int stand, int turn) {
            int own = stand >> 10 & 15;
            int other = stand >> 6 & 15;
            int ownToken = stand >> 5 & 1;
            int loses = 0;
            int stopped = otherLoses(stand);
            if (turn == LOST_TURN) {
                loses = Math.max(0, ownLoses(stand) - 1);
            } else if (turn == TOKEN_TURN) {
                ownToken = 0;
                stopped = Math.min(MOST_LOST, stopped + stop);
            } else {
                own = at(rests, own << 6 | other << 2 | turn - 1);
                if (way.isEnd(own)) {
                    return ARRIVED;
                }
                int kind = at(way.kinds, own);
                ownToken = kind == INN ? 1 : ownToken;
                loses = kind == MUDDY ? 1 : 0;
            }
            return other << 10 | own << 6 | (stand >> 4 & 1) << 5 | ownToken << 4 | stopped << 2 | loses;
        }

        private static int standOf(Race race) {
            Wagon own = race.mover();
            Wagon other = race.waiting();
            int tokens = (own.hasToken ? 2 : 0) | (other.hasToken ? 1 : 0);
            return own.place << 10 | other.place << 6 | tokens << 4 | own.loses << 2 | other.loses;
        }

        private static int ownLoses(int stand) {
            return stand >> 2 & 3;
        }

        private static int otherLoses(int stand) {
            return stand & 3;
        }
    }
}
