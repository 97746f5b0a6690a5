/** Desks that several tests start from. */
final class Desks {
    static final int MOST_VOTERS = 100000;

    private Desks() {
    }

    static BallotDesk of(int n) {
        BallotDesk desk = new BallotDesk();
        desk.candidates(n);
        return desk;
    }

    static BallotDesk with(int n, int order, int amount) {
        BallotDesk desk = of(n);
        desk.ballot(order, amount);
        return desk;
    }

    /** Twenty types, the first ten by one order, the others by another, each of so many voters. */
    static BallotDesk twenty(int n, int order, int other, int amount) {
        BallotDesk desk = of(n);
        for (int type = 0; type < 20; type++) {
            desk.ballot(type < 10 ? order : other, amount);
        }
        return desk;
    }

    /** Every order that turns 0, 1, 2, .. round: each one beats the next, and the last one the first. */
    static BallotDesk turning(int n, int amount) {
        BallotDesk desk = of(n);
        for (int by = 0; by < n; by++) {
            desk.ballot(Orders.turned(n, by), amount);
        }
        return desk;
    }

    static int everyone(int n) {
        return (1 << n) - 1;
    }
}
