import java.util.Arrays;
import java.util.NoSuchElementException;

/**
 * Twelve rules for choosing among candidates, applied to the same ballots.
 *
 * Every table is made once, with the object: no call of the face makes an object or an array.
 */
public final class BallotDesk {
    public static final int NONE = -1;

    private static final int FIRSTS = 0;
    private static final int LASTS = 1;
    private static final int POINTS = 2;
    private static final int RUNOFF = 3;
    private static final int ELIMINATION = 4;
    private static final int DEFEAT = 5;
    private static final int WINS = 6;
    private static final int PATHS = 7;
    private static final int LOCKS = 8;
    private static final int AGREEMENT = 9;
    private static final int UNCOVERED = 10;
    private static final int AGENDA = 11;
    private static final int RULE_COUNT = 12;

    private static final int BEST_ALONE_WINS = 0;
    private static final int WORST_LOSES = 1;
    private static final int RAISING_KEEPS = 2;
    private static final int JOINING_KEEPS = 3;
    private static final int LEAVING_KEEPS = 4;
    private static final int PROPERTY_COUNT = 5;

    private static final int LEAST_CANDIDATES = 2;
    private static final int MOST_CANDIDATES = 7;
    private static final int CANDIDATES_AT_FIRST = 4;
    private static final int MOST_SETS = 1 << MOST_CANDIDATES;
    private static final int MOST_PAIRS = MOST_CANDIDATES * (MOST_CANDIDATES - 1) / 2;
    private static final int MOST_ORDERS = 5040;
    private static final int MOST_TYPES = 20;
    private static final int MOST_VOTERS = 100000;
    private static final int MOST_WEIGHT = 1000;
    /** Every voter against every pair, with the one voter more who may be tried. */
    private static final int MOST_DISAGREEMENT = MOST_PAIRS * (MOST_TYPES * MOST_VOTERS + 1);
    private static final int CIRCLE_LENGTH = 3;

    private final Poll poll;
    private final Rules rules;
    private final WhatIf whatIf;
    private int changedOrder;
    private int witnessed;

    public BallotDesk() {
        poll = new Poll();
        poll.open(CANDIDATES_AT_FIRST);
        whatIf = new WhatIf();
        rules = whatIf.rules;
        changedOrder = NONE;
        witnessed = NONE;
    }

    public int candidates(int n) throws IllegalArgumentException {
        needArgument(n >= LEAST_CANDIDATES && n <= MOST_CANDIDATES);
        int before = poll.size;
        poll.open(n);
        return before;
    }

    public int ballot(int order, int amount) throws IllegalArgumentException, IllegalStateException {
        needArgument(Order.isOne(order, poll.size) && isAmount(amount));
        if (poll.types >= MOST_TYPES) {
            throw new IllegalStateException();
        }
        return poll.append(order, amount);
    }

    public int amount(int type, int amount) throws NoSuchElementException, IllegalArgumentException {
        needElement(isType(type));
        needArgument(isAmount(amount));
        int before = poll.voters[type];
        poll.replace(type, poll.orders[type], amount);
        return before;
    }

    public int drop(int type) throws NoSuchElementException {
        needElement(isType(type));
        poll.remove(type);
        return poll.types;
    }

    public int tieOrder(int order) throws IllegalArgumentException {
        needArgument(Order.isOne(order, poll.size));
        int before = poll.tie;
        poll.tie = order;
        return before;
    }

    public int agenda(int order) throws IllegalArgumentException {
        needArgument(Order.isOne(order, poll.size));
        int before = poll.agenda;
        poll.agenda = order;
        return before;
    }

    public int weight(int place, int weight) throws NoSuchElementException, IllegalArgumentException {
        needElement(place >= 0 && place < poll.size);
        needArgument(weight >= 0 && weight <= MOST_WEIGHT);
        int before = poll.weights[place];
        poll.weights[place] = weight;
        return before;
    }

    // ---- rules

    public int winners(int rule) throws NoSuchElementException {
        needElement(isRule(rule));
        return rules.winnerSet(poll, rule);
    }

    public int winner(int rule) throws NoSuchElementException {
        needElement(isRule(rule));
        return rules.theWinner(poll, rule);
    }

    public long score(int rule, int candidate) throws NoSuchElementException, IllegalArgumentException {
        needElement(isRule(rule) && isCandidate(candidate));
        needArgument(Scores.areKeptBy(rule));
        return Scores.of(poll, rule, candidate);
    }

    public int pair(int a, int b) throws NoSuchElementException {
        needElement(isCandidate(a) && isCandidate(b));
        return poll.ahead[a][b];
    }

    public int path(int a, int b) throws NoSuchElementException {
        needElement(isCandidate(a) && isCandidate(b));
        rules.paths.measure(poll);
        return rules.paths.strength[a][b];
    }

    public int branches() {
        return rules.elimination.setsThatCanBeLeft(poll);
    }

    public int step(int k) throws NoSuchElementException {
        needElement(k >= 0 && k < poll.size);
        return rules.elimination.goerAt(poll, k);
    }

    public long disagreement() {
        return rules.agreement.leastOfAll(poll);
    }

    public int agreed() {
        return rules.agreement.bestOrder(poll);
    }

    // ---- what could be

    public int change(int rule, int type, int size) throws NoSuchElementException, IllegalArgumentException {
        needElement(isRule(rule) && isType(type));
        needArgument(size >= 1 && size <= poll.voters[type]);
        changedOrder = whatIf.betterOrder(poll, rule, type, size);
        return changedOrder == NONE ? 0 : whatIf.placeReached + 1;
    }

    public int changed() {
        return changedOrder;
    }

    public boolean property(int rule, int property) throws NoSuchElementException {
        needElement(isRule(rule) && property >= 0 && property < PROPERTY_COUNT);
        switch (property) {
            case BEST_ALONE_WINS:
                witnessed = whatIf.bestNotAlone(poll, rule);
                break;
            case WORST_LOSES:
                witnessed = whatIf.worstAmongWinners(poll, rule);
                break;
            case RAISING_KEEPS:
                witnessed = whatIf.typeThatHarmsByRaising(poll, rule);
                break;
            case JOINING_KEEPS:
                witnessed = whatIf.typeThatHarmsByJoining(poll, rule);
                break;
            case LEAVING_KEEPS:
            default:
                witnessed = whatIf.loserThatHarmsByLeaving(poll, rule);
                break;
        }
        return witnessed == NONE;
    }

    public int witness() {
        return witnessed;
    }

    public int circle(int k) throws NoSuchElementException {
        needElement(k >= 0 && k < CIRCLE_LENGTH);
        int members = poll.leastCircle();
        return members == NONE ? NONE : Order.at(members, k);
    }

    public boolean clones(int set) throws IllegalArgumentException {
        needArgument(set >= 0 && set <= poll.everyone() && Integer.bitCount(set) >= 2);
        for (int type = 0; type < poll.types; type++) {
            if (poll.voters[type] > 0 && !Order.standTogether(poll.orders[type], set, poll.size)) {
                return false;
            }
        }
        return true;
    }

    public int count(int what) throws IllegalArgumentException {
        needArgument(what >= 0 && what <= 2);
        if (what == 0) {
            return poll.size;
        }
        return what == 1 ? poll.types : poll.allVoters();
    }

    private boolean isCandidate(int candidate) {
        return candidate >= 0 && candidate < poll.size;
    }

    private boolean isType(int type) {
        return type >= 0 && type < poll.types;
    }

    private static boolean isRule(int rule) {
        return rule >= 0 && rule < RULE_COUNT;
    }

    private static boolean isAmount(int amount) {
        return amount >= 0 && amount <= MOST_VOTERS;
    }

    private static void needElement(boolean there) {
        if (!there) {
            throw new NoSuchElementException();
        }
    }

    private static void needArgument(boolean fits) {
        if (!fits) {
            throw new IllegalArgumentException();
        }
    }

    /** Orders as numbers: three bits a place, the first place lowest. */
    private static final class Order {
        static int at(int order, int place) {
            return (order >> (3 * place)) & 7;
        }

        static boolean isOne(int number, int size) {
            if (number < 0 || (number >> (3 * size)) != 0) {
                return false;
            }
            int seen = 0;
            for (int place = 0; place < size; place++) {
                seen |= 1 << at(number, place);
            }
            return seen == (1 << size) - 1;
        }

        static int ascending(int size) {
            int order = 0;
            for (int place = 0; place < size; place++) {
                order |= place << (3 * place);
            }
            return order;
        }

        static int placeOf(int order, int candidate, int size) {
            for (int place = 0; place < size; place++) {
                if (at(order, place) == candidate) {
                    return place;
                }
            }
            return size;
        }

        static int raised(int order, int candidate, int size) {
            int place = placeOf(order, candidate, size);
            if (place == 0 || place == size) {
                return order;
            }
            int difference = at(order, place) ^ at(order, place - 1);
            return order ^ (difference << (3 * place)) ^ (difference << (3 * (place - 1)));
        }

        /** Those above the one that leaves take one number less, so that numbers have no gap. */
        static int without(int order, int leaving, int size) {
            int rest = 0;
            int filled = 0;
            for (int place = 0; place < size; place++) {
                int candidate = at(order, place);
                if (candidate != leaving) {
                    rest |= numberWithout(candidate, leaving) << (3 * filled);
                    filled++;
                }
            }
            return rest;
        }

        static int numberWithout(int candidate, int leaving) {
            return candidate > leaving ? candidate - 1 : candidate;
        }

        static boolean standTogether(int order, int set, int size) {
            int first = size;
            int last = 0;
            for (int place = 0; place < size; place++) {
                if (((set >> at(order, place)) & 1) != 0) {
                    first = Math.min(first, place);
                    last = place;
                }
            }
            return last - first + 1 == Integer.bitCount(set);
        }
    }

    /** All orders of some candidates, one after the other, the least by its first places first. */
    private static final class Orders {
        private final int[] row = new int[MOST_CANDIDATES];
        private int size;

        void start(int candidates) {
            size = candidates;
            for (int place = 0; place < size; place++) {
                row[place] = place;
            }
        }

        int asNumber() {
            int order = 0;
            for (int place = 0; place < size; place++) {
                order |= row[place] << (3 * place);
            }
            return order;
        }

        boolean advance() {
            int turn = size - 2;
            while (turn >= 0 && row[turn] > row[turn + 1]) {
                turn--;
            }
            if (turn < 0) {
                return false;
            }
            int other = size - 1;
            while (other > turn + 1 && row[other] < row[turn]) {
                other--;
            }
            swap(turn, other);
            for (int low = turn + 1, high = size - 1; low < high; low++, high--) {
                swap(low, high);
            }
            return true;
        }

        private void swap(int one, int other) {
            int kept = row[one];
            row[one] = row[other];
            row[other] = kept;
        }
    }

    /** Ballots and settings, with tables that are kept in step with every ballot. */
    private static final class Poll {
        /** One row more than there can be types: for voters of a type who vote otherwise. */
        final int[] orders = new int[MOST_TYPES + 1];
        final int[] voters = new int[MOST_TYPES + 1];
        final int[] weights = new int[MOST_CANDIDATES];
        /** placed[c][p]: voters who have c at place p. */
        final int[][] placed = new int[MOST_CANDIDATES][MOST_CANDIDATES];
        /** ahead[a][b]: voters who have a ahead of b. */
        final int[][] ahead = new int[MOST_CANDIDATES][MOST_CANDIDATES];
        int size;
        int types;
        int tie;
        int agenda;

        void open(int candidates) {
            size = candidates;
            tie = Order.ascending(size);
            agenda = tie;
            for (int place = 0; place < size; place++) {
                weights[place] = size - 1 - place;
            }
            empty();
        }

        private void empty() {
            types = 0;
            for (int candidate = 0; candidate < MOST_CANDIDATES; candidate++) {
                Arrays.fill(placed[candidate], 0);
                Arrays.fill(ahead[candidate], 0);
            }
        }

        void copy(Poll other) {
            size = other.size;
            tie = other.tie;
            agenda = other.agenda;
            System.arraycopy(other.weights, 0, weights, 0, size);
            empty();
            for (int type = 0; type < other.types; type++) {
                append(other.orders[type], other.voters[type]);
            }
        }

        void copyWithout(Poll other, int leaving) {
            size = other.size - 1;
            tie = Order.without(other.tie, leaving, other.size);
            agenda = Order.without(other.agenda, leaving, other.size);
            System.arraycopy(other.weights, 0, weights, 0, size);
            empty();
            for (int type = 0; type < other.types; type++) {
                append(Order.without(other.orders[type], leaving, other.size), other.voters[type]);
            }
        }

        int append(int order, int amount) {
            int type = types;
            if (type < orders.length) {
                orders[type] = order;
                voters[type] = amount;
                types++;
                tally(order, amount);
            }
            return type;
        }

        void replace(int type, int order, int amount) {
            tally(orders[type], -voters[type]);
            orders[type] = order;
            voters[type] = amount;
            tally(order, amount);
        }

        void remove(int type) {
            tally(orders[type], -voters[type]);
            types--;
            for (int row = type; row < types; row++) {
                orders[row] = orders[row + 1];
                voters[row] = voters[row + 1];
            }
        }

        private void tally(int order, int amount) {
            for (int place = 0; place < size; place++) {
                int candidate = Order.at(order, place);
                placed[candidate][place] += amount;
                int[] row = ahead[candidate];
                for (int behind = place + 1; behind < size; behind++) {
                    row[Order.at(order, behind)] += amount;
                }
            }
        }

        boolean beats(int a, int b) {
            return ahead[a][b] > ahead[b][a];
        }

        int beatenBy(int a) {
            int beaten = 0;
            for (int b = 0; b < size; b++) {
                if (beats(a, b)) {
                    beaten |= 1 << b;
                }
            }
            return beaten;
        }

        int everyone() {
            return (1 << size) - 1;
        }

        int allVoters() {
            int sum = 0;
            for (int type = 0; type < types; type++) {
                sum += voters[type];
            }
            return sum;
        }

        int firstInTie(int set) {
            for (int place = 0; place < size; place++) {
                int candidate = Order.at(tie, place);
                if (((set >> candidate) & 1) != 0) {
                    return candidate;
                }
            }
            return NONE;
        }

        int lastInTie(int set) {
            for (int place = size - 1; place >= 0; place--) {
                int candidate = Order.at(tie, place);
                if (((set >> candidate) & 1) != 0) {
                    return candidate;
                }
            }
            return NONE;
        }

        /** Three members, held as the first three places of an order are. */
        int leastCircle() {
            for (int a = 0; a < size; a++) {
                for (int b = 0; b < size; b++) {
                    for (int c = 0; c < size; c++) {
                        if (beats(a, b) && beats(b, c) && beats(c, a)) {
                            return a | (b << 3) | (c << 6);
                        }
                    }
                }
            }
            return NONE;
        }
    }

    /** The rules that give each candidate a number. */
    private static final class Scores {
        static boolean areKeptBy(int rule) {
            return rule == FIRSTS || rule == LASTS || rule == POINTS || rule == DEFEAT || rule == WINS;
        }

        static long of(Poll poll, int rule, int candidate) {
            switch (rule) {
                case FIRSTS:
                    return poll.placed[candidate][0];
                case LASTS:
                    return poll.placed[candidate][poll.size - 1];
                case POINTS:
                    return points(poll, candidate);
                case DEFEAT:
                    return greatestDefeat(poll, candidate);
                default:
                    return wins(poll, candidate);
            }
        }

        static int winnerSet(Poll poll, int rule) {
            boolean leastWins = rule == LASTS || rule == DEFEAT;
            int set = 0;
            long best = 0;
            for (int candidate = 0; candidate < poll.size; candidate++) {
                long own = of(poll, rule, candidate);
                if (set == 0 || (leastWins ? own < best : own > best)) {
                    best = own;
                    set = 1 << candidate;
                } else if (own == best) {
                    set |= 1 << candidate;
                }
            }
            return set;
        }

        private static long points(Poll poll, int candidate) {
            long sum = 0;
            for (int place = 0; place < poll.size; place++) {
                sum += (long) poll.weights[place] * poll.placed[candidate][place];
            }
            return sum;
        }

        private static long greatestDefeat(Poll poll, int candidate) {
            int greatest = 0;
            for (int other = 0; other < poll.size; other++) {
                if (poll.beats(other, candidate)) {
                    greatest = Math.max(greatest, poll.ahead[other][candidate]);
                }
            }
            return greatest;
        }

        private static long wins(Poll poll, int candidate) {
            int sum = 0;
            for (int other = 0; other < poll.size; other++) {
                if (other != candidate && !poll.beats(other, candidate)) {
                    sum += poll.beats(candidate, other) ? 2 : 1;
                }
            }
            return sum;
        }
    }

    private static final class Elimination {
        private final boolean[] canBeLeft = new boolean[MOST_SETS];
        private final int[] leads = new int[MOST_CANDIDATES];

        int winnerSet(Poll poll) {
            spread(poll);
            int set = 0;
            for (int candidate = 0; candidate < poll.size; candidate++) {
                if (canBeLeft[1 << candidate]) {
                    set |= 1 << candidate;
                }
            }
            return set;
        }

        int setsThatCanBeLeft(Poll poll) {
            spread(poll);
            int sets = 0;
            for (int set = 1; set <= poll.everyone(); set++) {
                if (canBeLeft[set]) {
                    sets++;
                }
            }
            return sets;
        }

        int goerAt(Poll poll, int k) {
            int left = poll.everyone();
            for (int gone = 0; gone < k; gone++) {
                left &= ~(1 << poll.lastInTie(goers(poll, left)));
            }
            return poll.lastInTie(goers(poll, left));
        }

        /** A set without one of its members is a lesser number, so descending once meets them all. */
        private void spread(Poll poll) {
            int everyone = poll.everyone();
            for (int set = 0; set < everyone; set++) {
                canBeLeft[set] = false;
            }
            canBeLeft[everyone] = true;
            for (int set = everyone; set > 0; set--) {
                if (canBeLeft[set] && Integer.bitCount(set) >= 2) {
                    int goers = goers(poll, set);
                    for (int candidate = 0; candidate < poll.size; candidate++) {
                        if (((goers >> candidate) & 1) != 0) {
                            canBeLeft[set - (1 << candidate)] = true;
                        }
                    }
                }
            }
        }

        /** Of a set of one, that one. */
        private int goers(Poll poll, int set) {
            countLeads(poll, set);
            int goers = 0;
            int fewest = 0;
            for (int candidate = 0; candidate < poll.size; candidate++) {
                if (((set >> candidate) & 1) != 0) {
                    if (goers == 0 || leads[candidate] < fewest) {
                        fewest = leads[candidate];
                        goers = 1 << candidate;
                    } else if (leads[candidate] == fewest) {
                        goers |= 1 << candidate;
                    }
                }
            }
            return goers;
        }

        private void countLeads(Poll poll, int set) {
            for (int candidate = 0; candidate < poll.size; candidate++) {
                leads[candidate] = 0;
            }
            for (int type = 0; type < poll.types; type++) {
                int rest = poll.orders[type];
                for (int place = 0; place < poll.size; place++) {
                    int candidate = rest & 7;
                    if (((set >> candidate) & 1) != 0) {
                        leads[candidate] += poll.voters[type];
                        break;
                    }
                    rest >>= 3;
                }
            }
        }
    }

    private static final class Paths {
        final int[][] strength = new int[MOST_CANDIDATES][MOST_CANDIDATES];

        void measure(Poll poll) {
            for (int a = 0; a < poll.size; a++) {
                for (int b = 0; b < poll.size; b++) {
                    strength[a][b] = poll.beats(a, b) ? poll.ahead[a][b] : 0;
                }
            }
            for (int through = 0; through < poll.size; through++) {
                for (int a = 0; a < poll.size; a++) {
                    widen(a, through, poll.size);
                }
            }
        }

        private void widen(int a, int through, int size) {
            int[] own = strength[a];
            for (int b = 0; b < size; b++) {
                if (b != a) {
                    own[b] = Math.max(own[b], Math.min(own[through], strength[through][b]));
                }
            }
        }

        int winnerSet(Poll poll) {
            measure(poll);
            int set = poll.everyone();
            for (int a = 0; a < poll.size; a++) {
                for (int b = 0; b < poll.size; b++) {
                    if (strength[a][b] < strength[b][a]) {
                        set &= ~(1 << a);
                    }
                }
            }
            return set;
        }
    }

    private static final class Locks {
        /**
         * A pair as one number: its voters, then how far from the end its two stand in the tie
         * order, so that the pair to be locked earlier has the greater number.
         */
        private final int[] keys = new int[MOST_PAIRS];
        /** Whom each one is locked over, be it by way of others. */
        private final int[] under = new int[MOST_CANDIDATES];
        private int pairs;

        int winnerSet(Poll poll) {
            collect(poll);
            Arrays.fill(under, 0);
            int free = poll.everyone();
            for (int k = 0; k < pairs; k++) {
                int a = Order.at(poll.tie, 7 - ((keys[k] >> 3) & 7));
                int b = Order.at(poll.tie, 7 - (keys[k] & 7));
                if (((under[b] >> a) & 1) == 0) {
                    lock(a, b, poll.size);
                    free &= ~(1 << b);
                }
            }
            return free;
        }

        private void collect(Poll poll) {
            pairs = 0;
            for (int i = 0; i < poll.size; i++) {
                int a = Order.at(poll.tie, i);
                for (int j = 0; j < poll.size; j++) {
                    int b = Order.at(poll.tie, j);
                    if (poll.beats(a, b)) {
                        insert((poll.ahead[a][b] << 6) | ((7 - i) << 3) | (7 - j));
                    }
                }
            }
        }

        private void insert(int key) {
            int slot = pairs;
            while (slot > 0 && keys[slot - 1] < key) {
                keys[slot] = keys[slot - 1];
                slot--;
            }
            keys[slot] = key;
            pairs++;
        }

        private void lock(int a, int b, int size) {
            int gained = under[b] | (1 << b);
            for (int over = 0; over < size; over++) {
                if (over == a || ((under[over] >> a) & 1) != 0) {
                    under[over] |= gained;
                }
            }
        }
    }

    /** The best orders of every set of candidates, found from those of its smaller sets. */
    private static final class Agreement {
        /** least[s]: the least disagreement of an order of the set s alone. */
        private final int[] least = new int[MOST_SETS];
        /** against[c][s]: the disagreement that c causes when it stands ahead of all of s. */
        private final int[][] against = new int[MOST_CANDIDATES][MOST_SETS];

        long leastOfAll(Poll poll) {
            weigh(poll);
            return least[poll.everyone()];
        }

        int winnerSet(Poll poll) {
            weigh(poll);
            return bestLeaders(poll.everyone(), poll.size);
        }

        int bestOrder(Poll poll) {
            weigh(poll);
            int order = 0;
            int left = poll.everyone();
            for (int place = 0; place < poll.size; place++) {
                int candidate = poll.firstInTie(bestLeaders(left, poll.size));
                order |= candidate << (3 * place);
                left &= ~(1 << candidate);
            }
            return order;
        }

        private int bestLeaders(int set, int size) {
            int leaders = 0;
            for (int candidate = 0; candidate < size; candidate++) {
                int rest = set & ~(1 << candidate);
                if (rest != set && least[rest] + against[candidate][rest] == least[set]) {
                    leaders |= 1 << candidate;
                }
            }
            return leaders;
        }

        private void weigh(Poll poll) {
            for (int candidate = 0; candidate < poll.size; candidate++) {
                sumAgainst(poll, candidate);
            }
            int everyone = poll.everyone();
            for (int set = 1; set <= everyone; set++) {
                int best = MOST_DISAGREEMENT;
                for (int candidate = 0; candidate < poll.size; candidate++) {
                    int rest = set & ~(1 << candidate);
                    if (rest != set) {
                        best = Math.min(best, least[rest] + against[candidate][rest]);
                    }
                }
                least[set] = best;
            }
        }

        /** Each further candidate doubles the sets: those before, and those before with it. */
        private void sumAgainst(Poll poll, int candidate) {
            int[] sums = against[candidate];
            for (int other = 0; other < poll.size; other++) {
                int half = 1 << other;
                int added = poll.ahead[other][candidate];
                for (int set = 0; set < half; set++) {
                    sums[half + set] = sums[set] + added;
                }
            }
        }
    }

    private static final class Rules {
        final Elimination elimination = new Elimination();
        final Paths paths = new Paths();
        final Locks locks = new Locks();
        final Agreement agreement = new Agreement();
        private final int[] beaten = new int[MOST_CANDIDATES];

        int theWinner(Poll poll, int rule) {
            return poll.firstInTie(winnerSet(poll, rule));
        }

        int winnerSet(Poll poll, int rule) {
            switch (rule) {
                case RUNOFF:
                    return runoff(poll);
                case ELIMINATION:
                    return elimination.winnerSet(poll);
                case PATHS:
                    return paths.winnerSet(poll);
                case LOCKS:
                    return locks.winnerSet(poll);
                case AGREEMENT:
                    return agreement.winnerSet(poll);
                case UNCOVERED:
                    return uncovered(poll);
                case AGENDA:
                    return 1 << lastToStay(poll);
                default:
                    return Scores.winnerSet(poll, rule);
            }
        }

        private static int runoff(Poll poll) {
            int set = 0;
            for (int a = 0; a < poll.size; a++) {
                for (int b = a + 1; b < poll.size; b++) {
                    if (mayMeet(poll, a, b)) {
                        set |= poll.beats(b, a) ? 0 : 1 << a;
                        set |= poll.beats(a, b) ? 0 : 1 << b;
                    }
                }
            }
            return set;
        }

        private static boolean mayMeet(Poll poll, int a, int b) {
            int lesser = Math.min(poll.placed[a][0], poll.placed[b][0]);
            for (int other = 0; other < poll.size; other++) {
                if (other != a && other != b && poll.placed[other][0] > lesser) {
                    return false;
                }
            }
            return true;
        }

        private int uncovered(Poll poll) {
            for (int a = 0; a < poll.size; a++) {
                beaten[a] = poll.beatenBy(a);
            }
            int set = poll.everyone();
            for (int a = 0; a < poll.size; a++) {
                for (int b = 0; b < poll.size; b++) {
                    int needed = beaten[b] | (1 << b);
                    if ((beaten[a] & needed) == needed) {
                        set &= ~(1 << b);
                    }
                }
            }
            return set;
        }

        private static int lastToStay(Poll poll) {
            int stays = Order.at(poll.agenda, 0);
            for (int place = 1; place < poll.size; place++) {
                int next = Order.at(poll.agenda, place);
                if (poll.beats(next, stays)) {
                    stays = next;
                } else if (!poll.beats(stays, next)) {
                    stays = poll.firstInTie((1 << stays) | (1 << next));
                }
            }
            return stays;
        }
    }

    /** Asks the rules about other ballots; these are held apart, so that the true ones never change. */
    private static final class WhatIf {
        /** Their tables serve the true ballots too: nothing in them outlasts a question. */
        final Rules rules = new Rules();
        private final Poll trial = new Poll();
        private final Orders orders = new Orders();
        int placeReached;

        int betterOrder(Poll poll, int rule, int type, int movers) {
            int own = poll.orders[type];
            placeReached = Order.placeOf(own, rules.theWinner(poll, rule), poll.size);
            trial.copy(poll);
            trial.replace(type, own, poll.voters[type] - movers);
            int moved = trial.append(own, movers);
            int found = NONE;
            orders.start(poll.size);
            boolean more = true;
            for (int tried = 0; tried < MOST_ORDERS && more && placeReached > 0; tried++) {
                int order = orders.asNumber();
                trial.replace(moved, order, movers);
                int place = Order.placeOf(own, rules.theWinner(trial, rule), poll.size);
                if (place < placeReached) {
                    placeReached = place;
                    found = order;
                }
                more = orders.advance();
            }
            return found;
        }

        int bestNotAlone(Poll poll, int rule) {
            for (int candidate = 0; candidate < poll.size; candidate++) {
                int own = 1 << candidate;
                if (poll.beatenBy(candidate) == poll.everyone() - own) {
                    return rules.winnerSet(poll, rule) == own ? NONE : candidate;
                }
            }
            return NONE;
        }

        int worstAmongWinners(Poll poll, int rule) {
            int worst = poll.everyone();
            for (int candidate = 0; candidate < poll.size; candidate++) {
                worst &= poll.beatenBy(candidate) | (1 << candidate);
            }
            // Two of them would have to beat each other, so there is one at most.
            return poll.firstInTie(worst & rules.winnerSet(poll, rule));
        }

        int typeThatHarmsByRaising(Poll poll, int rule) {
            int winner = rules.theWinner(poll, rule);
            trial.copy(poll);
            for (int type = 0; type < poll.types; type++) {
                int order = poll.orders[type];
                trial.replace(type, Order.raised(order, winner, poll.size), poll.voters[type]);
                if (rules.theWinner(trial, rule) != winner) {
                    return type;
                }
                trial.replace(type, order, poll.voters[type]);
            }
            return NONE;
        }

        int typeThatHarmsByJoining(Poll poll, int rule) {
            int winner = rules.theWinner(poll, rule);
            trial.copy(poll);
            for (int type = 0; type < poll.types; type++) {
                int order = poll.orders[type];
                if (Order.at(order, 0) == winner) {
                    trial.replace(type, order, poll.voters[type] + 1);
                    if (rules.theWinner(trial, rule) != winner) {
                        return type;
                    }
                    trial.replace(type, order, poll.voters[type]);
                }
            }
            return NONE;
        }

        int loserThatHarmsByLeaving(Poll poll, int rule) {
            if (poll.size <= LEAST_CANDIDATES) {
                return NONE;
            }
            int winnerSet = rules.winnerSet(poll, rule);
            int winner = poll.firstInTie(winnerSet);
            for (int loser = 0; loser < poll.size; loser++) {
                if (((winnerSet >> loser) & 1) == 0) {
                    trial.copyWithout(poll, loser);
                    if (rules.theWinner(trial, rule) != Order.numberWithout(winner, loser)) {
                        return loser;
                    }
                }
            }
            return NONE;
        }
    }
}
