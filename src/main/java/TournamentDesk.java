/**
 * A desk for one tournament of 2 to 10 players: results, weights, scores, structure, best orders,
 * winners by five rules, and the comparison with a stored tournament.
 *
 * Sets of players are bit masks throughout: bit p stands for player p.
 */
public final class TournamentDesk {
    public static final int INVALID_ARGUMENT = -1;
    public static final int NOT_POSSIBLE = -2;
    public static final int LIMIT_REACHED = -3;
    public static final int NOT_FOUND = -4;
    public static final int TOP = 0, KINGS = 1, SCORES = 2, CHAINS = 3, ORDER = 4;

    private static final int LEAST_PLAYERS = 2;
    private static final int MOST_PLAYERS = 10;
    private static final int FIRST_PLAYERS = 4;
    private static final int HALF = 5;
    private static final int LOW_HALF = 31;
    private static final int MOST_WEIGHT = 100;
    private static final int MOST_STATES = 8;
    private static final int MOST_NUMBERS = 10;
    private static final int MOST_NUMBER = 9;
    private static final int MOST_CHARACTERS = 120;
    private static final int FIRST_CHARACTER = 32;
    private static final int LAST_CHARACTER = 126;
    private static final int RESULT_LENGTH = 4;
    private static final int SHORTEST_CYCLE = 3;

    private final Board present;
    private final Board kept;
    private final History history;
    private final Sequence sequence;
    private final ResultText text;
    private final Construction construction;
    private final Paths paths;
    private final Cycle cycle;
    private final Orders orders;
    private final Likeness likeness;

    public TournamentDesk() {
        present = new Board();
        kept = new Board();
        history = new History();
        sequence = new Sequence();
        text = new ResultText();
        construction = new Construction();
        paths = new Paths();
        cycle = new Cycle();
        orders = new Orders();
        likeness = new Likeness();
    }

    // ---- changes

    public int reset(int players) {
        if (players < LEAST_PLAYERS || players > MOST_PLAYERS) {
            return INVALID_ARGUMENT;
        }
        int before = present.size();
        history.record(present);
        present.start(players);
        return before;
    }

    public int setResult(int winner, int loser) {
        if (!present.hasPair(winner, loser)) {
            return INVALID_ARGUMENT;
        }
        boolean before = present.wins(winner, loser);
        history.record(present);
        present.setWinner(winner, loser);
        return before ? 1 : 0;
    }

    public int setWeight(int a, int b, int weight) {
        if (!present.hasPair(a, b) || weight < 1 || weight > MOST_WEIGHT) {
            return INVALID_ARGUMENT;
        }
        int before = present.weightOf(a, b);
        history.record(present);
        present.putWeight(a, b, weight);
        return before;
    }

    public int reverseTriangle(int a, int b, int c) {
        if (!present.hasPair(a, b) || !present.hasPair(b, c) || !present.hasPair(a, c)) {
            return INVALID_ARGUMENT;
        }
        if (!present.isTriangle(a, b, c)) {
            return NOT_POSSIBLE;
        }
        history.record(present);
        present.turn(a, b);
        present.turn(b, c);
        present.turn(a, c);
        return present.countTriangles();
    }

    public int reversePath(int from, int to) {
        if (!present.hasPair(from, to)) {
            return INVALID_ARGUMENT;
        }
        int length = Paths.stepsBetween(present, from, to);
        if (length == NOT_FOUND) {
            return NOT_POSSIBLE;
        }
        history.record(present);
        paths.findShortest(present, from, to);
        // The whole path is known before its first result turns, so no turn can bend the rest of it.
        for (int place = 0; place < length && place < MOST_PLAYERS; place++) {
            present.turn(paths.playerAt(place), paths.playerAt(place + 1));
        }
        return length;
    }

    public int reversePlayer(int player) {
        if (!present.has(player)) {
            return INVALID_ARGUMENT;
        }
        history.record(present);
        for (int other = 0; other < present.size(); other++) {
            present.turn(player, other);
        }
        return present.winsOf(player);
    }

    public int exchange(int a, int b) {
        if (!present.has(a) || !present.has(b)) {
            return INVALID_ARGUMENT;
        }
        history.record(present);
        present.swap(a, b);
        return present.winsOf(a);
    }

    public int construct() {
        if (sequence.failingCount() != 0) {
            return NOT_POSSIBLE;
        }
        history.record(present);
        construction.build(sequence, present);
        return present.size();
    }

    public int enter() {
        if (text.faultFor(present) != NOT_FOUND) {
            return NOT_POSSIBLE;
        }
        history.record(present);
        return text.enterInto(present);
    }

    public int recall() {
        history.record(present);
        present.copyFrom(kept);
        return present.size();
    }

    public int undo() {
        if (history.isEmpty()) {
            return NOT_POSSIBLE;
        }
        history.takeLatest(present);
        return history.size();
    }

    // ---- sequence and text

    public int append(int score) {
        if (score < 0 || score > MOST_NUMBER) {
            return INVALID_ARGUMENT;
        }
        return sequence.add(score) ? sequence.size() : LIMIT_REACHED;
    }

    public int clearSequence() {
        int before = sequence.size();
        sequence.empty();
        return before;
    }

    public int checkSequence() {
        return sequence.failingCount();
    }

    public int type(int character) {
        if (character < FIRST_CHARACTER || character > LAST_CHARACTER) {
            return INVALID_ARGUMENT;
        }
        return text.add((char) character) ? text.size() : LIMIT_REACHED;
    }

    public int clearText() {
        int before = text.size();
        text.empty();
        return before;
    }

    public int fault() {
        return text.faultFor(present);
    }

    // ---- results and scores

    public int players() {
        return present.size();
    }

    public int beats(int a, int b) {
        if (!present.has(a) || !present.has(b)) {
            return INVALID_ARGUMENT;
        }
        return present.wins(a, b) ? 1 : 0;
    }

    public int weight(int a, int b) {
        return present.hasPair(a, b) ? present.weightOf(a, b) : INVALID_ARGUMENT;
    }

    public int score(int player) {
        return present.has(player) ? present.winsOf(player) : INVALID_ARGUMENT;
    }

    public int scoreAt(int place) {
        return present.has(place) ? present.winsAtPlace(place) : INVALID_ARGUMENT;
    }

    // ---- structure

    public int triangles() {
        return present.countTriangles();
    }

    public int distance(int from, int to) {
        if (!present.has(from) || !present.has(to)) {
            return INVALID_ARGUMENT;
        }
        return Paths.stepsBetween(present, from, to);
    }

    public int components() {
        return Structure.countParts(present);
    }

    public int componentOf(int player) {
        return present.has(player) ? Structure.partNumber(present, player) : INVALID_ARGUMENT;
    }

    public int spanningPaths() {
        return paths.countSpanning(present);
    }

    public int pathAt(int place) {
        if (!present.has(place)) {
            return INVALID_ARGUMENT;
        }
        paths.findSpanning(present);
        return paths.playerAt(place);
    }

    public int cycleAt(int player, int length, int place) {
        if (!present.has(player) || length < SHORTEST_CYCLE || length > present.size()) {
            return INVALID_ARGUMENT;
        }
        if (place < 0 || place >= length) {
            return INVALID_ARGUMENT;
        }
        return cycle.find(present, player, length) ? cycle.playerAt(place) : NOT_FOUND;
    }

    public int cycleLengths(int player) {
        return present.has(player) ? Cycle.countLengths(present, player) : INVALID_ARGUMENT;
    }

    // ---- orders and winners

    public int leastCost() {
        return orders.leastCostOf(present);
    }

    public int orderAt(int place) {
        return present.has(place) ? orders.playerAt(present, place) : INVALID_ARGUMENT;
    }

    public int winners(int rule) {
        return rule < TOP || rule > ORDER ? INVALID_ARGUMENT : winnersBy(rule);
    }

    public int undisputed() {
        int all = present.everyone();
        for (int rule = TOP; rule <= ORDER; rule++) {
            all &= winnersBy(rule);
        }
        return Integer.bitCount(all);
    }

    private int winnersBy(int rule) {
        switch (rule) {
            case TOP:
                return Structure.topOf(present, present.everyone());
            case KINGS:
                return Structure.kingsOf(present);
            case SCORES:
                return Structure.leadersOf(present, present.everyone());
            case CHAINS:
                return Structure.chainTopsOf(present);
            default:
                return orders.firstOnes(present);
        }
    }

    // ---- stored tournament

    public int store() {
        kept.copyFrom(present);
        return kept.size();
    }

    public int difference() {
        return present.size() == kept.size() ? Likeness.countDiffering(present, kept) : NOT_POSSIBLE;
    }

    public int isLikeStored() {
        return likeness.areAlike(present, kept) ? 1 : 0;
    }

    public int towardsStored() {
        return present.size() == kept.size() ? Likeness.helpfulTriangle(present, kept) : NOT_POSSIBLE;
    }

    // ---- sets of players

    private static boolean holds(int set, int player) {
        return player >= 0 && player < MOST_PLAYERS && (set >> player & 1) != 0;
    }

    private static int only(int player) {
        return player >= 0 && player < MOST_PLAYERS ? 1 << player : 0;
    }

    private static int without(int set, int player) {
        return set & ~only(player);
    }

    /** The player with the lowest number in the set, or a number that no player has if it is empty. */
    private static int lowestOf(int set) {
        return Integer.bitCount((set & -set) - 1);
    }

    /** A tournament: for each player the set of those whom this player beats, and for each pair a weight. */
    private static final class Board {
        private int size;
        private int stamp;
        private final int[] beaten = new int[MOST_PLAYERS];
        private final int[] weights = new int[MOST_PLAYERS * MOST_PLAYERS];

        Board() {
            start(FIRST_PLAYERS);
        }

        void start(int number) {
            stamp++;
            size = Math.max(LEAST_PLAYERS, Math.min(number, MOST_PLAYERS));
            for (int player = 0; player < beaten.length; player++) {
                beaten[player] = player < size ? (1 << size) - (2 << player) : 0;
            }
            for (int place = 0; place < weights.length; place++) {
                weights[place] = 1;
            }
        }

        void copyFrom(Board other) {
            stamp++;
            size = other.size;
            System.arraycopy(other.beaten, 0, beaten, 0, MOST_PLAYERS);
            System.arraycopy(other.weights, 0, weights, 0, MOST_PLAYERS * MOST_PLAYERS);
        }

        int size() {
            return size;
        }

        /** Differs after each change of this board, so that what was computed of it can be told to be stale. */
        int stamp() {
            return stamp;
        }

        int everyone() {
            return (1 << size) - 1;
        }

        boolean has(int player) {
            return player >= 0 && player < size;
        }

        boolean hasPair(int a, int b) {
            return has(a) && has(b) && a != b;
        }

        int beatenBy(int player) {
            return player >= 0 && player < beaten.length ? beaten[player] : 0;
        }

        int beatersOf(int player) {
            return everyone() & ~beatenBy(player) & ~only(player);
        }

        boolean wins(int a, int b) {
            return holds(beatenBy(a), b);
        }

        int winsOf(int player) {
            return Integer.bitCount(beatenBy(player));
        }

        int winsAtPlace(int place) {
            int before = 0;
            for (int wins = 0; wins < size; wins++) {
                for (int player = 0; player < size; player++) {
                    before += winsOf(player) == wins ? 1 : 0;
                }
                if (before > place) {
                    return wins;
                }
            }
            return 0;
        }

        void turn(int a, int b) {
            if (!hasPair(a, b) || a >= beaten.length || b >= beaten.length) {
                return;
            }
            stamp++;
            beaten[a] ^= only(b);
            beaten[b] ^= only(a);
        }

        void setWinner(int winner, int loser) {
            if (!wins(winner, loser)) {
                turn(winner, loser);
            }
        }

        int weightOf(int a, int b) {
            int place = a * MOST_PLAYERS + b;
            return has(a) && has(b) && place >= 0 && place < weights.length ? weights[place] : 0;
        }

        void putWeight(int a, int b, int weight) {
            int place = a * MOST_PLAYERS + b;
            int mirrored = b * MOST_PLAYERS + a;
            if (!hasPair(a, b) || Math.min(place, mirrored) < 0 || Math.max(place, mirrored) >= weights.length) {
                return;
            }
            stamp++;
            weights[place] = weight;
            weights[mirrored] = weight;
        }

        void swap(int a, int b) {
            for (int other = 0; other < size; other++) {
                if (hasPair(a, other) && hasPair(b, other)) {
                    swapAgainst(a, b, other);
                }
            }
            turn(a, b);
        }

        private void swapAgainst(int a, int b, int other) {
            int weight = weightOf(a, other);
            putWeight(a, other, weightOf(b, other));
            putWeight(b, other, weight);
            if (wins(a, other) != wins(b, other)) {
                turn(a, other);
                turn(b, other);
            }
        }

        boolean isTriangle(int a, int b, int c) {
            return wins(a, b) == wins(b, c) && wins(b, c) == wins(c, a);
        }

        /** Three players who form no cycle have exactly one among them who beats both others. */
        int countTriangles() {
            int count = size * (size - 1) * (size - 2) / 6;
            for (int player = 0; player < size; player++) {
                count -= winsOf(player) * (winsOf(player) - 1) / 2;
            }
            return count;
        }

        /** What it costs that a player stands before another one in an order. */
        int costOfBefore(int player, int other) {
            return wins(other, player) ? weightOf(player, other) : 0;
        }
    }

    /** The states before the latest changes, in a ring of boards that are used again. */
    private static final class History {
        private final Board[] states = new Board[MOST_STATES];
        private int oldest;
        private int count;

        History() {
            for (int place = 0; place < states.length; place++) {
                states[place] = new Board();
            }
        }

        int size() {
            return count;
        }

        boolean isEmpty() {
            return count == 0;
        }

        private Board stateAt(int age) {
            int place = Math.floorMod(oldest + age, MOST_STATES);
            return place >= 0 && place < states.length ? states[place] : null;
        }

        void record(Board board) {
            if (count == MOST_STATES) {
                oldest = Math.floorMod(oldest + 1, MOST_STATES);
                count--;
            }
            Board state = stateAt(count);
            if (state != null) {
                state.copyFrom(board);
                count++;
            }
        }

        void takeLatest(Board board) {
            Board state = stateAt(count - 1);
            if (count > 0 && state != null) {
                board.copyFrom(state);
                count--;
            }
        }
    }

    /** The numbers from which a tournament may be constructed. */
    private static final class Sequence {
        private final int[] numbers = new int[MOST_NUMBERS];
        private int length;

        int size() {
            return length;
        }

        void empty() {
            length = 0;
        }

        boolean add(int number) {
            if (length < 0 || length >= numbers.length) {
                return false;
            }
            numbers[length] = number;
            length++;
            return true;
        }

        int numberAt(int place) {
            return place >= 0 && place < length && place < numbers.length ? numbers[place] : 0;
        }

        /** The answer of checkSequence: 0 for a score sequence, else the least failing k, or an error. */
        int failingCount() {
            if (length < LEAST_PLAYERS) {
                return NOT_POSSIBLE;
            }
            for (int k = 1; k <= length; k++) {
                int sum = sumOfSmallest(k);
                int due = k * (k - 1) / 2;
                if (sum < due || k == length && sum > due) {
                    return k;
                }
            }
            return 0;
        }

        private int sumOfSmallest(int k) {
            int sum = 0;
            int left = k;
            for (int number = 0; number <= MOST_NUMBER; number++) {
                int taken = Math.min(left, timesOf(number));
                sum += taken * number;
                left -= taken;
            }
            return sum;
        }

        private int timesOf(int number) {
            int times = 0;
            for (int place = 0; place < length; place++) {
                times += numberAt(place) == number ? 1 : 0;
            }
            return times;
        }
    }

    /** Makes the tournament that the document constructs from a score sequence. */
    private static final class Construction {
        private final int[] rests = new int[MOST_PLAYERS];

        void build(Sequence sequence, Board board) {
            board.start(sequence.size());
            for (int player = 0; player < rests.length; player++) {
                rests[player] = sequence.numberAt(player);
            }
            int left = board.everyone();
            for (int turn = 0; turn < MOST_PLAYERS && left != 0; turn++) {
                int taken = greatestOf(left);
                left = without(left, taken);
                settle(board, taken, left, smallestOf(left, restOf(taken)));
            }
        }

        private int restOf(int player) {
            return player >= 0 && player < rests.length ? rests[player] : 0;
        }

        private int greatestOf(int left) {
            int greatest = lowestOf(left);
            for (int player = 0; player < rests.length; player++) {
                if (holds(left, player) && restOf(player) >= restOf(greatest)) {
                    greatest = player;
                }
            }
            return greatest;
        }

        private int smallestOf(int left, int count) {
            int chosen = 0;
            for (int turn = 0; turn < count && turn < MOST_PLAYERS; turn++) {
                chosen |= only(smallestIn(left & ~chosen));
            }
            return chosen;
        }

        private int smallestIn(int set) {
            int smallest = lowestOf(set);
            for (int player = 0; player < rests.length; player++) {
                if (holds(set, player) && restOf(player) < restOf(smallest)) {
                    smallest = player;
                }
            }
            return smallest;
        }

        private void settle(Board board, int taken, int left, int losers) {
            for (int player = 0; player < rests.length; player++) {
                if (holds(losers, player)) {
                    board.setWinner(taken, player);
                } else if (holds(left, player)) {
                    board.setWinner(player, taken);
                    rests[player]--;
                }
            }
        }
    }

    /** The text of results. */
    private static final class ResultText {
        private final char[] characters = new char[MOST_CHARACTERS];
        private int length;

        int size() {
            return length;
        }

        void empty() {
            length = 0;
        }

        boolean add(char character) {
            if (length < 0 || length >= characters.length) {
                return false;
            }
            characters[length] = character;
            length++;
            return true;
        }

        /** Behind the end there is a character that stands in no result, so that a part of one is a fault. */
        private char at(int place) {
            return place >= 0 && place < length && place < characters.length ? characters[place] : ' ';
        }

        int faultFor(Board board) {
            for (int place = 0; place < length; place += RESULT_LENGTH) {
                if (!isResult(board, place)) {
                    return place;
                }
            }
            return NOT_FOUND;
        }

        private boolean isResult(Board board, int place) {
            char sign = at(place + 1);
            return board.hasPair(at(place) - '0', at(place + 2) - '0')
                && (sign == '>' || sign == '<')
                && at(place + 3) == ';';
        }

        int enterInto(Board board) {
            int count = 0;
            for (int place = 0; place < length; place += RESULT_LENGTH) {
                int one = at(place) - '0';
                int two = at(place + 2) - '0';
                boolean oneWins = at(place + 1) == '>';
                board.setWinner(oneWins ? one : two, oneWins ? two : one);
                count++;
            }
            return count;
        }
    }

    /** Components, and the winners that follow from results alone. */
    private static final class Structure {
        /** Those with the most wins within the set. */
        static int leadersOf(Board board, int set) {
            int most = -1;
            int leaders = 0;
            for (int player = 0; player < board.size(); player++) {
                int wins = Integer.bitCount(board.beatenBy(player) & set);
                if (holds(set, player) && wins >= most) {
                    leaders = wins > most ? only(player) : leaders | only(player);
                    most = wins;
                }
            }
            return leaders;
        }

        /** The first component of the players in the set: a leader is in it, and all who reach a leader. */
        static int topOf(Board board, int set) {
            int top = leadersOf(board, set);
            for (int turn = 0; turn < board.size(); turn++) {
                for (int player = 0; player < board.size(); player++) {
                    if (holds(set, player) && (board.beatenBy(player) & top) != 0) {
                        top |= only(player);
                    }
                }
            }
            return top;
        }

        static int countParts(Board board) {
            int left = board.everyone();
            int count = 0;
            for (int turn = 0; turn < MOST_PLAYERS && left != 0; turn++) {
                left &= ~topOf(board, left);
                count++;
            }
            return count;
        }

        static int partNumber(Board board, int player) {
            int left = board.everyone() & ~topOf(board, board.everyone());
            int number = 0;
            for (int turn = 0; turn < MOST_PLAYERS && holds(left, player); turn++) {
                left &= ~topOf(board, left);
                number++;
            }
            return number;
        }

        /** The players of the player's component. */
        static int partWith(Board board, int player) {
            int left = board.everyone();
            int part = topOf(board, left);
            for (int turn = 0; turn < MOST_PLAYERS && !holds(part, player) && left != 0; turn++) {
                left &= ~part;
                part = topOf(board, left);
            }
            return part;
        }

        static int kingsOf(Board board) {
            int kings = 0;
            for (int player = 0; player < board.size(); player++) {
                if (isKing(board, player)) {
                    kings |= only(player);
                }
            }
            return kings;
        }

        private static boolean isKing(Board board, int player) {
            int reached = only(player) | board.beatenBy(player);
            for (int other = 0; other < board.size(); other++) {
                if (board.wins(player, other)) {
                    reached |= board.beatenBy(other);
                }
            }
            return reached == board.everyone();
        }

        static int chainTopsOf(Board board) {
            int tops = 0;
            for (int last = 0; last < board.size(); last++) {
                tops |= topsAbove(board, last, board.beatersOf(last), 1);
            }
            return tops;
        }

        /** Chains grow at their beginning; a chain is a set of players, so there are less than 1024 of them. */
        private static int topsAbove(Board board, int first, int extenders, int depth) {
            if (extenders == 0 || depth >= MOST_PLAYERS) {
                return extenders == 0 ? only(first) : 0;
            }
            int tops = 0;
            for (int player = 0; player < board.size(); player++) {
                if (holds(extenders, player)) {
                    tops |= topsAbove(board, player, extenders & board.beatersOf(player), depth + 1);
                }
            }
            return tops;
        }
    }

    /** Shortest paths and spanning paths. */
    private static final class Paths {
        private final int[] path = new int[MOST_PLAYERS];
        private final int[] counts = new int[MOST_PLAYERS << MOST_PLAYERS];

        int playerAt(int place) {
            return place >= 0 && place < path.length ? path[place] : NOT_FOUND;
        }

        private void put(int place, int player) {
            if (place >= 0 && place < path.length) {
                path[place] = player;
            }
        }

        static int stepsBetween(Board board, int from, int to) {
            int reached = only(from);
            for (int steps = 0; steps < board.size(); steps++) {
                if (holds(reached, to)) {
                    return steps;
                }
                reached |= beatenByAny(board, reached);
            }
            return NOT_FOUND;
        }

        private static int beatenByAny(Board board, int set) {
            int beaten = 0;
            for (int player = 0; player < board.size(); player++) {
                if (holds(set, player)) {
                    beaten |= board.beatenBy(player);
                }
            }
            return beaten;
        }

        void findShortest(Board board, int from, int to) {
            int length = stepsBetween(board, from, to);
            put(0, from);
            for (int place = 1; place <= length && place < MOST_PLAYERS; place++) {
                put(place, nextTowards(board, playerAt(place - 1), to, length - place));
            }
        }

        private static int nextTowards(Board board, int player, int to, int stepsLeft) {
            for (int next = 0; next < board.size(); next++) {
                if (board.wins(player, next) && stepsBetween(board, next, to) == stepsLeft) {
                    return next;
                }
            }
            return NOT_FOUND;
        }

        /**
         * A spanning path of some players may begin with each one of their first component and with no
         * other one, so the least next player is the least one there whom the last player beats.
         */
        void findSpanning(Board board) {
            int left = board.everyone();
            int choice = left;
            for (int place = 0; place < board.size(); place++) {
                int next = lowestOf(Structure.topOf(board, left) & choice);
                put(place, next);
                left = without(left, next);
                choice = board.beatenBy(next);
            }
        }

        int countSpanning(Board board) {
            int all = board.everyone();
            for (int set = 1; set <= all; set++) {
                for (int last = 0; last < board.size(); last++) {
                    if (holds(set, last)) {
                        putCount(set, last, countEnding(board, without(set, last), last));
                    }
                }
            }
            return sumOfCounts(all, all);
        }

        /** The paths through all players before and then to the last one. */
        private int countEnding(Board board, int before, int last) {
            return before == 0 ? 1 : sumOfCounts(before, before & ~board.beatenBy(last));
        }

        private int sumOfCounts(int set, int lastOnes) {
            int left = lastOnes;
            int sum = 0;
            for (int turn = 0; turn < MOST_PLAYERS && left != 0; turn++) {
                int place = set * MOST_PLAYERS + lowestOf(left);
                sum += place >= 0 && place < counts.length ? counts[place] : 0;
                left &= left - 1;
            }
            return sum;
        }

        private void putCount(int set, int last, int count) {
            int place = set * MOST_PLAYERS + last;
            if (place >= 0 && place < counts.length) {
                counts[place] = count;
            }
        }
    }

    /** Cycles of a given length through a player. */
    private static final class Cycle {
        private final int[] found = new int[MOST_PLAYERS];
        // For each set of players who are still free: the last players from whom no cycle was closed.
        private final int[] failed = new int[1 << MOST_PLAYERS];

        int playerAt(int place) {
            return place >= 0 && place < found.length ? found[place] : NOT_FOUND;
        }

        /** In a strong tournament of k players each player is on cycles of all lengths from 3 to k. */
        static int countLengths(Board board, int player) {
            return Math.max(0, Integer.bitCount(Structure.partWith(board, player)) - SHORTEST_CYCLE + 1);
        }

        boolean find(Board board, int player, int length) {
            int part = Structure.partWith(board, player);
            if (Integer.bitCount(part) < length) {
                return false;
            }
            for (int set = 0; set <= part && set < failed.length; set++) {
                failed[set] = 0;
            }
            found[0] = player;
            return extend(board, found, failed, without(part, player), 1, length);
        }

        private static boolean extend(Board board, int[] cycle, int[] failed, int free, int depth, int length) {
            if (depth < 1 || depth > length || depth > cycle.length || free < 0 || free >= failed.length) {
                return false;
            }
            int last = cycle[depth - 1];
            if (depth == length) {
                return board.wins(last, cycle[0]);
            }
            if (holds(failed[free], last)) {
                return false;
            }
            for (int next = 0; next < board.size() && depth < cycle.length; next++) {
                if (holds(free, next) && board.wins(last, next)) {
                    cycle[depth] = next;
                    if (extend(board, cycle, failed, without(free, next), depth + 1, length)) {
                        return true;
                    }
                }
            }
            failed[free] |= only(last);
            return false;
        }
    }

    /** Orders with the least cost; it is asked about one board only, whose stamp tells what is stale. */
    private static final class Orders {
        private final int[] least = new int[1 << MOST_PLAYERS];
        // The cost of a player before a set, as two sums, for there are but 32 sets of low or of high numbers.
        private final int[] lowCosts = new int[MOST_PLAYERS << HALF];
        private final int[] highCosts = new int[MOST_PLAYERS << HALF];
        private int knownStamp;

        private void learn(Board board) {
            if (knownStamp == board.stamp()) {
                return;
            }
            knownStamp = board.stamp();
            for (int player = 0; player < board.size(); player++) {
                for (int half = 1; half < 1 << HALF; half++) {
                    sumCosts(board, player, half);
                }
            }
            int all = board.everyone();
            for (int set = 1; set <= all && set < least.length; set++) {
                least[set] = leastWithin(board.size(), set);
            }
        }

        private void sumCosts(Board board, int player, int half) {
            int place = (player << HALF) + half;
            int smaller = (player << HALF) + (half & half - 1);
            int lowest = lowestOf(half);
            if (smaller >= 0 && smaller < place && place < lowCosts.length && place < highCosts.length) {
                lowCosts[place] = lowCosts[smaller] + board.costOfBefore(player, lowest);
                highCosts[place] = highCosts[smaller] + board.costOfBefore(player, lowest + HALF);
            }
        }

        private int leastWithin(int players, int set) {
            int cost = costWithFirst(set, lowestOf(set));
            for (int first = 0; first < players; first++) {
                if (holds(set, first)) {
                    cost = Math.min(cost, costWithFirst(set, first));
                }
            }
            return cost;
        }

        private int costWithFirst(int set, int first) {
            int low = (first << HALF) + (set & LOW_HALF);
            int high = (first << HALF) + (set >> HALF);
            if (low < 0 || low >= lowCosts.length || high < 0 || high >= highCosts.length) {
                return 0;
            }
            return leastFor(without(set, first)) + lowCosts[low] + highCosts[high];
        }

        private int leastFor(int set) {
            return set >= 0 && set < least.length ? least[set] : 0;
        }

        private int firstOnesWithin(int players, int set) {
            int firstOnes = 0;
            for (int first = 0; first < players; first++) {
                if (holds(set, first) && costWithFirst(set, first) == leastFor(set)) {
                    firstOnes |= only(first);
                }
            }
            return firstOnes;
        }

        int leastCostOf(Board board) {
            learn(board);
            return leastFor(board.everyone());
        }

        int firstOnes(Board board) {
            learn(board);
            return firstOnesWithin(board.size(), board.everyone());
        }

        int playerAt(Board board, int place) {
            learn(board);
            int left = board.everyone();
            for (int before = 0; before < place && before < MOST_PLAYERS; before++) {
                left = without(left, lowestOf(firstOnesWithin(board.size(), left)));
            }
            return lowestOf(firstOnesWithin(board.size(), left));
        }
    }

    /** The comparison of two tournaments. */
    private static final class Likeness {
        private final int[] images = new int[MOST_PLAYERS];

        static int countDiffering(Board one, Board two) {
            int sides = 0;
            for (int player = 0; player < one.size(); player++) {
                sides += Integer.bitCount(one.beatenBy(player) ^ two.beatenBy(player));
            }
            // Each pair was counted from both of its sides.
            return sides / 2;
        }

        static int helpfulTriangle(Board one, Board two) {
            for (int a = 0; a < one.size(); a++) {
                for (int b = a + 1; b < one.size(); b++) {
                    for (int c = b + 1; c < one.size(); c++) {
                        if (one.isTriangle(a, b, c) && differingAmong(one, two, a, b, c) >= 2) {
                            return 100 * a + 10 * b + c;
                        }
                    }
                }
            }
            return NOT_FOUND;
        }

        private static int differingAmong(Board one, Board two, int a, int b, int c) {
            return differs(one, two, a, b) + differs(one, two, b, c) + differs(one, two, a, c);
        }

        private static int differs(Board one, Board two, int a, int b) {
            return one.wins(a, b) == two.wins(a, b) ? 0 : 1;
        }

        boolean areAlike(Board one, Board two) {
            return one.size() == two.size() && assign(one, two, images, two.everyone(), 0);
        }

        private static boolean assign(Board one, Board two, int[] images, int free, int player) {
            if (player < 0 || player >= one.size() || player >= images.length) {
                return player == one.size();
            }
            for (int image = 0; image < two.size(); image++) {
                if (holds(free, image) && corresponds(one, two, images, player, image)) {
                    images[player] = image;
                    if (assign(one, two, images, without(free, image), player + 1)) {
                        return true;
                    }
                }
            }
            return false;
        }

        private static boolean corresponds(Board one, Board two, int[] images, int player, int image) {
            if (one.winsOf(player) != two.winsOf(image)) {
                return false;
            }
            for (int other = 0; other < player && other < images.length; other++) {
                if (one.wins(player, other) != two.wins(image, images[other])) {
                    return false;
                }
            }
            return true;
        }
    }
}
