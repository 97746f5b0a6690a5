import java.util.Random;

/** Long runs of calls, right and wrong ones, on a desk and on the naive reading of the document at once. */
public final class OracleTest {
    private static final String[] CALLS = {
        "candidates", "ballot", "amount", "drop", "tieOrder", "agenda", "weight", "winners", "winner",
        "score", "pair", "path", "branches", "step", "disagreement", "agreed", "change", "changed",
        "property", "witness", "circle", "clones", "count"};
    /** How often each call comes, so that ballots gather and the dear calls stay rare. */
    private static final int[] SHARES = {
        1, 10, 8, 4, 6, 6, 5, 14, 6,
        8, 4, 6, 4, 6, 2, 4, 6, 3,
        16, 4, 3, 5, 2};

    private static final int NOTHING = 0;

    private final Random random;
    private final BallotDesk desk = new BallotDesk();
    private final Naive naive = new Naive(4);
    private final int most;
    private final int voters;
    private final String name;

    private OracleTest(int run, int most, int voters) {
        random = new Random(run);
        this.most = most;
        this.voters = voters;
        name = "run " + run + ": ";
    }

    public static void main(String[] args) {
        for (int run = 0; run < 90; run++) {
            int most = run % 9 == 8 ? 7 : run % 9 >= 6 ? 6 : 3 + run % 3;
            int[] voters = {1, 2, 4, 12, 1000, 100000};
            new OracleTest(run, most, voters[run % voters.length]).play(run % 9 >= 6 ? 150 : 511);
        }
        Check.end();
    }

    private void play(int calls) {
        compare("candidates", most, 0, 0);
        for (int k = 0; k < calls; k++) {
            String call = pick();
            int[] x = arguments(call);
            if (!isTooDear(call, x)) {
                compare(call, x[0], x[1], x[2]);
            }
        }
    }

    private String pick() {
        int sum = 0;
        for (int share : SHARES) {
            sum += share;
        }
        int at = random.nextInt(sum);
        int call = 0;
        while (at >= SHARES[call]) {
            at -= SHARES[call];
            call++;
        }
        return CALLS[call];
    }

    /** The naive reading tries all orders within all orders here. */
    private boolean isTooDear(String call, int[] x) {
        return call.equals("change") && naive.n >= 6 && (x[0] == 9 || random.nextInt(4) > 0);
    }

    private int[] arguments(String call) {
        int n = naive.n;
        int types = naive.orders.size();
        switch (call) {
            case "candidates": return new int[] {random.nextInt(10) == 0 ? oneOf(9) : 2 + random.nextInt(most - 1), 0, 0};
            case "ballot": return new int[] {order(), voters(), 0};
            case "amount": return new int[] {oneOf(types), voters(), 0};
            case "tieOrder":
            case "agenda": return new int[] {order(), 0, 0};
            case "weight": return new int[] {oneOf(n), random.nextInt(9) == 0 ? oneOf(1001) : random.nextInt(8), 0};
            case "winners":
            case "winner": return new int[] {oneOf(12), 0, 0};
            case "score": return new int[] {oneOf(7), oneOf(n), 0};
            case "pair":
            case "path": return new int[] {oneOf(n), oneOf(n), 0};
            case "step": return new int[] {oneOf(n), 0, 0};
            case "drop": return new int[] {types < 3 ? types : oneOf(types), 0, 0};
            case "change": return change(types);
            case "property": return new int[] {oneOf(12), oneOf(5), 0};
            case "circle":
            case "count": return new int[] {oneOf(3), 0, 0};
            case "clones": return new int[] {oneOf(1 << n), 0, 0};
            default: return new int[] {0, 0, 0};
        }
    }

    private int[] change(int types) {
        int type = oneOf(types);
        int amount = type >= 0 && type < types ? naive.amounts.get(type) : 3;
        return new int[] {oneOf(12), type, random.nextInt(3) == 0 ? amount : 1 + random.nextInt(amount + 1)};
    }

    /** Mostly 0 .. limit - 1, now and then one that is not. */
    private int oneOf(int limit) {
        int[] wrong = {-1, limit, limit + 1, Integer.MIN_VALUE, Integer.MAX_VALUE};
        boolean right = limit > 0 && random.nextInt(20) > 0;
        return right ? random.nextInt(limit) : wrong[random.nextInt(wrong.length)];
    }

    private int voters() {
        return random.nextInt(25) == 0 ? oneOf(100001) : random.nextInt(voters + 1);
    }

    private int order() {
        int[] row = new int[naive.n];
        for (int place = 0; place < row.length; place++) {
            int other = random.nextInt(place + 1);
            row[place] = row[other];
            row[other] = place;
        }
        if (random.nextInt(12) == 0) {
            row[random.nextInt(row.length)] = random.nextInt(8);
        }
        int number = Check.order(row);
        return random.nextInt(25) == 0 ? number ^ (1 << random.nextInt(32)) : number;
    }

    private void compare(String call, int x, int y, int z) {
        String told = name + call + "(" + x + ", " + y + ", " + z + ")";
        Object want = answer(() -> onNaive(call, x, y, z));
        Object got = answer(() -> onDesk(call, x, y, z));
        Check.due(told + " gave " + got + " and " + want + " is due: equal", got.equals(want), true);
    }

    private interface Asked {
        long ask();
    }

    private static Object answer(Asked asked) {
        try {
            return asked.ask();
        } catch (RuntimeException e) {
            return e.getClass().getName();
        }
    }

    private long onDesk(String call, int x, int y, int z) {
        switch (call) {
            case "candidates": return desk.candidates(x);
            case "ballot": return desk.ballot(x, y);
            case "amount": return desk.amount(x, y);
            case "drop": return desk.drop(x);
            case "tieOrder": return desk.tieOrder(x);
            case "agenda": return desk.agenda(x);
            case "weight": return desk.weight(x, y);
            case "winners": return desk.winners(x);
            case "winner": return desk.winner(x);
            case "score": return desk.score(x, y);
            case "pair": return desk.pair(x, y);
            case "path": return desk.path(x, y);
            case "branches": return desk.branches();
            case "step": return desk.step(x);
            case "disagreement": return desk.disagreement();
            case "agreed": return desk.agreed();
            case "change": return desk.change(x, y, z);
            case "changed": return desk.changed();
            case "property": return desk.property(x, y) ? 1 : 0;
            case "witness": return desk.witness();
            case "circle": return desk.circle(x);
            case "clones": return desk.clones(x) ? 1 : 0;
            case "count": return desk.count(x);
            default: return NOTHING;
        }
    }

    private long onNaive(String call, int x, int y, int z) {
        switch (call) {
            case "candidates": return naive.candidates(x);
            case "ballot": return naive.ballot(x, y);
            case "amount": return naive.amount(x, y);
            case "drop": return naive.drop(x);
            case "tieOrder": return naive.tieOrder(x);
            case "agenda": return naive.agenda(x);
            case "weight": return naive.weight(x, y);
            case "winners": return naive.winners(x);
            case "winner": return naive.winner(x);
            case "score": return naive.score(x, y);
            case "pair": return naive.pair(x, y);
            case "path": return naive.path(x, y);
            case "branches": return naive.branches();
            case "step": return naive.step(x);
            case "disagreement": return naive.disagreement();
            case "agreed": return naive.agreed();
            case "change": return naive.change(x, y, z);
            case "changed": return naive.changed;
            case "property": return naive.property(x, y) ? 1 : 0;
            case "witness": return naive.witness;
            case "circle": return naive.circle(x);
            case "clones": return naive.clones(x) ? 1 : 0;
            case "count": return naive.count(x);
            default: return NOTHING;
        }
    }
}
