import java.util.Arrays;
import java.util.List;
import java.util.NoSuchElementException;

/**
 * "Such a call changes nothing": every call that is refused, on desks of every kind, with all that the desk
 * answers thereafter beside the answers of a desk that was never asked so; and which exception comes first.
 */
public final class RefusalTest {
    private static final Class<?> NO_ELEMENT = NoSuchElementException.class;
    private static final Class<?> BAD_ARGUMENT = IllegalArgumentException.class;
    private static final Class<?> BAD_STATE = IllegalStateException.class;

    private interface Kind {
        BallotDesk make();
    }

    private interface Call {
        void on(BallotDesk desk);
    }

    private final String kind;
    private final Kind maker;
    private final List<String> untouched;
    private final int n;
    private final int types;

    private RefusalTest(String kind, Kind maker) {
        this.kind = kind;
        this.maker = maker;
        n = maker.make().count(0);
        types = maker.make().count(1);
        untouched = Answers.of(maker.make());
    }

    public static void main(String[] args) {
        new RefusalTest("new", BallotDesk::new).tryAll();
        new RefusalTest("ordinary", RefusalTest::ordinary).tryAll();
        new RefusalTest("two candidates", RefusalTest::twoCandidates).tryAll();
        new RefusalTest("seven candidates, no types", RefusalTest::sevenWithoutTypes).tryAll();
        new RefusalTest("full", RefusalTest::full).tryAll();
        Check.end();
    }

    /** With an order in changed() and a candidate in witness(), which a refused call must leave. */
    private static BallotDesk ordinary() {
        BallotDesk desk = new BallotDesk();
        desk.candidates(3);
        desk.ballot(Check.order(0, 1, 2), 4);
        desk.ballot(Check.order(1, 2, 0), 3);
        desk.ballot(Check.order(2, 1, 0), 2);
        desk.tieOrder(Check.order(2, 0, 1));
        desk.agenda(Check.order(1, 0, 2));
        desk.weight(0, 7);
        Check.due("ordinary: change(0, 2, 2)", desk.change(0, 2, 2), 2);
        Check.due("ordinary: property(0, 0)", desk.property(0, 0), false);
        return desk;
    }

    private static BallotDesk twoCandidates() {
        BallotDesk desk = new BallotDesk();
        desk.candidates(2);
        desk.ballot(Check.order(1, 0), 0);
        desk.ballot(Check.order(0, 1), 1);
        desk.ballot(Check.order(1, 0), 3);
        desk.weight(0, 0);
        desk.weight(1, 1000);
        desk.agenda(Check.order(1, 0));
        Check.due("two candidates: change(2, 2, 3)", desk.change(2, 2, 3), 1);
        Check.due("two candidates: property(2, 0)", desk.property(2, 0), false);
        return desk;
    }

    private static BallotDesk sevenWithoutTypes() {
        BallotDesk desk = new BallotDesk();
        desk.candidates(7);
        desk.tieOrder(Orders.turned(7, 3));
        desk.agenda(Orders.descending(7));
        return desk;
    }

    /** 6 has 600000 firsts, and is last for all others: 500000 of 0, 500000 of 1, 300000 of 2. */
    private static BallotDesk full() {
        BallotDesk desk = new BallotDesk();
        desk.candidates(7);
        for (int type = 0; type < 20; type++) {
            int behind = type < 12 ? Orders.ascending(7) : Check.order(1, 0, 2, 3, 4, 5, 6);
            int order = type < 17 ? behind : Check.order(2, 1, 0, 3, 4, 5, 6);
            desk.ballot(type < 7 ? Orders.descending(7) : order, type == 5 ? 0 : 100000);
        }
        desk.tieOrder(Check.order(3, 0, 6, 5, 4, 2, 1));
        desk.agenda(Orders.turned(7, 2));
        desk.weight(3, 1000);
        Check.due("full: change(0, 12, 100000)", desk.change(0, 12, 100000), 2);
        Check.due("full: property(0, 1)", desk.property(0, 1), false);
        return desk;
    }

    private void tryAll() {
        candidates();
        ballot();
        amount();
        drop();
        orders();
        weight();
        rules();
        score();
        pairs();
        step();
        change();
        property();
        whatElse();
    }

    private void refused(String call, Class<?> want, Call asked) {
        BallotDesk desk = maker.make();
        String told = kind + ": " + call;
        Check.refused(told, want, () -> asked.on(desk));
        Check.refused(told + " again", want, () -> asked.on(desk));
        Answers.same(told, untouched, Answers.of(desk));
    }

    private static int[] outside(int first, int last) {
        return new int[] {Integer.MIN_VALUE, -100001, first - 1, last + 1, 100001, Integer.MAX_VALUE};
    }

    private static int[] unique(int... numbers) {
        return Arrays.stream(numbers).distinct().toArray();
    }

    private void candidates() {
        for (int wrong : new int[] {Integer.MIN_VALUE, -4, -1, 0, 1, 8, 9, Integer.MAX_VALUE}) {
            refused("candidates(" + wrong + ")", BAD_ARGUMENT, desk -> desk.candidates(wrong));
        }
    }

    /** The argument is looked at before the room. */
    private void ballot() {
        int right = Orders.descending(n);
        for (int wrong : Orders.wrong(n)) {
            refused("ballot(" + wrong + ", 1)", BAD_ARGUMENT, desk -> desk.ballot(wrong, 1));
        }
        for (int wrong : outside(0, 100000)) {
            refused("ballot(" + right + ", " + wrong + ")", BAD_ARGUMENT, desk -> desk.ballot(right, wrong));
        }
        refused("ballot(0, -1)", BAD_ARGUMENT, desk -> desk.ballot(0, -1));
        if (types == 20) {
            for (int amount : new int[] {0, 1, 100000}) {
                refused("ballot(" + right + ", " + amount + ")", BAD_STATE, desk -> desk.ballot(right, amount));
            }
        }
    }

    /** The type is looked at before its amount. */
    private void amount() {
        for (int wrong : unique(Integer.MIN_VALUE, -1, types, types + 1, 20, 21, Integer.MAX_VALUE)) {
            for (int amount : new int[] {-1, 0, 1, 100000, 100001}) {
                refused("amount(" + wrong + ", " + amount + ")", NO_ELEMENT, desk -> desk.amount(wrong, amount));
            }
        }
        for (int wrong : outside(0, 100000)) {
            for (int type = 0; type < types; type++) {
                int asked = type;
                if (type == 0 || type == 5 || type == types - 1) {
                    refused("amount(" + type + ", " + wrong + ")", BAD_ARGUMENT, desk -> desk.amount(asked, wrong));
                }
            }
        }
    }

    private void drop() {
        for (int wrong : unique(Integer.MIN_VALUE, -1, types, types + 1, 20, 21, Integer.MAX_VALUE)) {
            refused("drop(" + wrong + ")", NO_ELEMENT, desk -> desk.drop(wrong));
        }
    }

    private void orders() {
        for (int wrong : Orders.wrong(n)) {
            refused("tieOrder(" + wrong + ")", BAD_ARGUMENT, desk -> desk.tieOrder(wrong));
            refused("agenda(" + wrong + ")", BAD_ARGUMENT, desk -> desk.agenda(wrong));
        }
    }

    /** The place is looked at before its weight. */
    private void weight() {
        for (int wrong : unique(Integer.MIN_VALUE, -1, n, n + 1, 7, 8, Integer.MAX_VALUE)) {
            for (int weight : new int[] {-1, 0, 1000, 1001}) {
                refused("weight(" + wrong + ", " + weight + ")", NO_ELEMENT, desk -> desk.weight(wrong, weight));
            }
        }
        for (int wrong : outside(0, 1000)) {
            refused("weight(0, " + wrong + ")", BAD_ARGUMENT, desk -> desk.weight(0, wrong));
            refused("weight(" + (n - 1) + ", " + wrong + ")", BAD_ARGUMENT, desk -> desk.weight(n - 1, wrong));
        }
    }

    private void rules() {
        for (int wrong : outside(0, 11)) {
            refused("winners(" + wrong + ")", NO_ELEMENT, desk -> desk.winners(wrong));
            refused("winner(" + wrong + ")", NO_ELEMENT, desk -> desk.winner(wrong));
        }
    }

    /** Both numbers are looked at before it is asked whether the rule has scores. */
    private void score() {
        for (int wrong : outside(0, 11)) {
            for (int candidate : new int[] {-1, 0, n - 1, n}) {
                refused("score(" + wrong + ", " + candidate + ")", NO_ELEMENT, desk -> desk.score(wrong, candidate));
            }
        }
        for (int rule = 0; rule < 12; rule++) {
            int asked = rule;
            for (int wrong : outside(0, n - 1)) {
                refused("score(" + rule + ", " + wrong + ")", NO_ELEMENT, desk -> desk.score(asked, wrong));
            }
        }
        for (int rule : new int[] {3, 4, 7, 8, 9, 10, 11}) {
            refused("score(" + rule + ", 0)", BAD_ARGUMENT, desk -> desk.score(rule, 0));
            refused("score(" + rule + ", " + (n - 1) + ")", BAD_ARGUMENT, desk -> desk.score(rule, n - 1));
        }
    }

    private void pairs() {
        for (int wrong : outside(0, n - 1)) {
            for (int other : new int[] {0, n - 1, wrong}) {
                refused("pair(" + wrong + ", " + other + ")", NO_ELEMENT, desk -> desk.pair(wrong, other));
                refused("pair(" + other + ", " + wrong + ")", NO_ELEMENT, desk -> desk.pair(other, wrong));
                refused("path(" + wrong + ", " + other + ")", NO_ELEMENT, desk -> desk.path(wrong, other));
                refused("path(" + other + ", " + wrong + ")", NO_ELEMENT, desk -> desk.path(other, wrong));
            }
        }
    }

    private void step() {
        for (int wrong : outside(0, n - 1)) {
            refused("step(" + wrong + ")", NO_ELEMENT, desk -> desk.step(wrong));
        }
    }

    /** Rule and type are looked at before the size. */
    private void change() {
        for (int wrong : outside(0, 11)) {
            refused("change(" + wrong + ", 0, 1)", NO_ELEMENT, desk -> desk.change(wrong, 0, 1));
            refused("change(" + wrong + ", 0, 0)", NO_ELEMENT, desk -> desk.change(wrong, 0, 0));
            refused("change(" + wrong + ", " + types + ", 1)", NO_ELEMENT, desk -> desk.change(wrong, types, 1));
        }
        for (int wrong : outside(0, types - 1)) {
            for (int size : new int[] {-1, 0, 1}) {
                refused("change(0, " + wrong + ", " + size + ")", NO_ELEMENT, desk -> desk.change(0, wrong, size));
                refused("change(11, " + wrong + ", " + size + ")", NO_ELEMENT, desk -> desk.change(11, wrong, size));
            }
        }
        BallotDesk asked = maker.make();
        for (int type = 0; type < types; type++) {
            int own = type;
            int most = asked.amount(type, 0);
            for (int wrong : new int[] {Integer.MIN_VALUE, -1, 0, most + 1, Integer.MAX_VALUE}) {
                refused("change(0, " + type + ", " + wrong + ")", BAD_ARGUMENT, desk -> desk.change(0, own, wrong));
            }
        }
    }

    private void property() {
        for (int wrong : outside(0, 11)) {
            for (int property : new int[] {-1, 0, 4, 5}) {
                refused("property(" + wrong + ", " + property + ")", NO_ELEMENT, desk -> desk.property(wrong, property));
            }
        }
        for (int wrong : outside(0, 4)) {
            refused("property(0, " + wrong + ")", NO_ELEMENT, desk -> desk.property(0, wrong));
            refused("property(11, " + wrong + ")", NO_ELEMENT, desk -> desk.property(11, wrong));
        }
    }

    private void whatElse() {
        for (int wrong : outside(0, 2)) {
            refused("circle(" + wrong + ")", NO_ELEMENT, desk -> desk.circle(wrong));
            refused("count(" + wrong + ")", BAD_ARGUMENT, desk -> desk.count(wrong));
        }
        for (int candidate = 0; candidate < n; candidate++) {
            int alone = 1 << candidate;
            refused("clones(" + alone + ")", BAD_ARGUMENT, desk -> desk.clones(alone));
        }
        for (int bit = n; bit < 32; bit++) {
            int more = 3 | 1 << bit;
            refused("clones(" + more + ")", BAD_ARGUMENT, desk -> desk.clones(more));
        }
        for (int wrong : new int[] {0, -1, 1 << n, Integer.MIN_VALUE, Integer.MAX_VALUE}) {
            refused("clones(" + wrong + ")", BAD_ARGUMENT, desk -> desk.clones(wrong));
        }
    }
}
