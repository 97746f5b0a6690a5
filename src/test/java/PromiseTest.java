import java.util.Arrays;
import java.util.NoSuchElementException;
import java.util.function.IntConsumer;

/** The promises one by one, on ballots small enough to count by hand. */
public final class PromiseTest {
    private static final Class<?> NO_ELEMENT = NoSuchElementException.class;
    private static final Class<?> BAD_ARGUMENT = IllegalArgumentException.class;
    private static final Class<?> BAD_STATE = IllegalStateException.class;

    private PromiseTest() {
    }

    public static void main(String[] args) {
        newObject();
        candidates();
        ballot();
        amount();
        drop();
        tieOrder();
        agenda();
        weight();
        winnersByScores();
        winnersByRunoffAndElimination();
        winnersByPairs();
        winner();
        score();
        pair();
        path();
        branches();
        step();
        disagreementAndAgreed();
        change();
        changed();
        properties();
        propertyOfRaising();
        propertyOfJoining();
        propertyOfLeaving();
        witness();
        circle();
        clones();
        count();
        Check.end();
    }

    private static int[] andExtremes(int... wrong) {
        int[] all = Arrays.copyOf(wrong, wrong.length + 2);
        all[wrong.length] = Integer.MIN_VALUE;
        all[wrong.length + 1] = Integer.MAX_VALUE;
        return all;
    }

    /** A desk of so many candidates, and types of so many voters each, told as orders one after the other. */
    private static BallotDesk desk(int n, int[] amounts, int... orders) {
        BallotDesk desk = new BallotDesk();
        desk.candidates(n);
        for (int type = 0; type < amounts.length; type++) {
            desk.ballot(Check.order(Arrays.copyOfRange(orders, type * n, (type + 1) * n)), amounts[type]);
        }
        return desk;
    }

    private static int[] of(int... amounts) {
        return amounts;
    }

    /** 0 has the most firsts, 1 beats both others: 4 voters of 0 1 2, 3 of 1 2 0, 2 of 2 1 0. */
    private static BallotDesk spoiled() {
        return desk(3, of(4, 3, 2), 0, 1, 2, 1, 2, 0, 2, 1, 0);
    }

    /** 0 beats 1 by 7 : 5, 1 beats 2 by 8 : 4, 2 beats 0 by 9 : 3. */
    private static BallotDesk round() {
        return desk(3, of(3, 5, 4), 0, 1, 2, 1, 2, 0, 2, 0, 1);
    }

    private static void newObject() {
        BallotDesk desk = new BallotDesk();
        Check.due("new: count(0)", desk.count(0), 4);
        Check.due("new: count(1)", desk.count(1), 0);
        Check.due("new: count(2)", desk.count(2), 0);
        Check.due("new: changed()", desk.changed(), BallotDesk.NONE);
        Check.due("new: witness()", desk.witness(), BallotDesk.NONE);
        Check.due("new: tieOrder()", desk.tieOrder(Check.order(3, 2, 1, 0)), Check.order(0, 1, 2, 3));
        Check.due("new: agenda()", desk.agenda(Check.order(3, 2, 1, 0)), Check.order(0, 1, 2, 3));
        for (int place = 0; place < 4; place++) {
            Check.due("new: weight of " + place, desk.weight(place, 9), 3 - place);
        }
        Check.due("NONE", BallotDesk.NONE, -1);
    }

    private static void candidates() {
        BallotDesk desk = new BallotDesk();
        desk.ballot(Check.order(3, 2, 1, 0), 5);
        desk.tieOrder(Check.order(3, 2, 1, 0));
        desk.agenda(Check.order(2, 3, 1, 0));
        desk.weight(1, 77);
        for (int n : andExtremes(1, 0, -1, 8)) {
            Check.refused("candidates(" + n + ")", BAD_ARGUMENT, () -> desk.candidates(n));
        }
        Check.due("a refused candidates() keeps the types", desk.count(1), 1);
        Check.due("a refused candidates() keeps the weights", desk.weight(1, 77), 77);
        Check.due("candidates(4)", desk.candidates(4), 4);
        Check.due("types go", desk.count(1), 0);
        Check.due("voters go", desk.count(2), 0);
        Check.due("pairs go", desk.pair(3, 0), 0);
        Check.due("firsts go", desk.winners(0), 15);
        Check.due("tie order as at first", desk.tieOrder(Check.order(0, 1, 2, 3)), Check.order(0, 1, 2, 3));
        Check.due("agenda as at first", desk.agenda(Check.order(0, 1, 2, 3)), Check.order(0, 1, 2, 3));
        Check.due("weight as at first", desk.weight(1, 2), 2);
        Check.due("candidates(7)", desk.candidates(7), 4);
        Check.due("weight 0 of 7", desk.weight(0, 6), 6);
        Check.due("tie order of 7", desk.tieOrder(Check.order(6, 5, 4, 3, 2, 1, 0)), Check.order(0, 1, 2, 3, 4, 5, 6));
        Check.due("candidates(2)", desk.candidates(2), 7);
        Check.due("agenda of 2", desk.agenda(Check.order(1, 0)), Check.order(0, 1));
        Check.due("candidates(3)", desk.candidates(3), 2);
        keepsAnswersAboutTheLatest();
    }

    /** Nothing in the document takes back what the latest change() and property() found. */
    private static void keepsAnswersAboutTheLatest() {
        BallotDesk desk = spoiled();
        desk.change(0, 2, 2);
        desk.property(0, 0);
        desk.candidates(5);
        Check.due("changed() after candidates()", desk.changed(), Check.order(1, 0, 2));
        Check.due("witness() after candidates()", desk.witness(), 1);
    }

    private static void ballot() {
        BallotDesk desk = new BallotDesk();
        desk.candidates(3);
        int[] none = {
            Check.order(0, 1, 1), Check.order(0, 1, 3), Check.order(0, 1), Check.order(0, 1, 2, 3),
            Check.order(0, 1, 2) | 1 << 9, Check.order(0, 1, 2) | 1 << 30, Check.order(0, 1, 2) | 1 << 31,
            0, -1, Integer.MIN_VALUE, Integer.MAX_VALUE};
        for (int order : none) {
            Check.refused("ballot(" + order + ", 1)", BAD_ARGUMENT, () -> desk.ballot(order, 1));
        }
        for (int amount : andExtremes(-1, 100001)) {
            Check.refused("ballot(.., " + amount + ")", BAD_ARGUMENT, () -> desk.ballot(Check.order(0, 1, 2), amount));
        }
        Check.due("no type of a refused ballot()", desk.count(1), 0);
        for (int type = 0; type < 20; type++) {
            int amount = type == 0 ? 0 : 100000;
            Check.due("ballot " + type, desk.ballot(Check.order(2, 0, 1), amount), type);
        }
        Check.refused("the 21st ballot", BAD_STATE, () -> desk.ballot(Check.order(0, 1, 2), 1));
        Check.refused("the 21st, no order", BAD_ARGUMENT, () -> desk.ballot(Check.order(0, 0, 2), 1));
        Check.refused("the 21st, no amount", BAD_ARGUMENT, () -> desk.ballot(Check.order(0, 1, 2), 100001));
        Check.due("types", desk.count(1), 20);
        Check.due("voters", desk.count(2), 1900000);
        desk.drop(3);
        Check.due("room again", desk.ballot(Check.order(0, 1, 2), 1), 19);
    }

    private static void amount() {
        BallotDesk desk = spoiled();
        Check.due("amount(0, 1)", desk.amount(0, 1), 4);
        Check.due("winners(0) thereafter", desk.winners(0), Check.set(1));
        Check.due("pair(0, 1) thereafter", desk.pair(0, 1), 1);
        Check.due("amount(0, 100000)", desk.amount(0, 100000), 1);
        Check.due("amount(0, 0)", desk.amount(0, 0), 100000);
        for (int type : andExtremes(-1, 3, 20)) {
            Check.refused("amount(" + type + ", 1)", NO_ELEMENT, () -> desk.amount(type, 1));
            Check.refused("amount(" + type + ", -1)", NO_ELEMENT, () -> desk.amount(type, -1));
        }
        for (int amount : andExtremes(-1, 100001)) {
            Check.refused("amount(1, " + amount + ")", BAD_ARGUMENT, () -> desk.amount(1, amount));
        }
        Check.due("a refused amount() changes nothing", desk.amount(1, 3), 3);
    }

    private static void drop() {
        BallotDesk desk = spoiled();
        for (int type : andExtremes(-1, 3)) {
            Check.refused("drop(" + type + ")", NO_ELEMENT, () -> desk.drop(type));
        }
        Check.due("drop(0)", desk.drop(0), 2);
        Check.due("the next one moves up", desk.amount(0, 3), 3);
        Check.due("and the one behind it", desk.amount(1, 2), 2);
        Check.refused("amount(2, 1)", NO_ELEMENT, () -> desk.amount(2, 1));
        Check.due("pair(0, 1) without it", desk.pair(0, 1), 0);
        Check.due("score(0, 1) without it", desk.score(0, 1), 3);
        Check.due("drop(1)", desk.drop(1), 1);
        Check.due("drop(0)", desk.drop(0), 0);
        Check.refused("drop(0) of none", NO_ELEMENT, () -> desk.drop(0));
    }

    private static void refusesNoOrders(String name, IntConsumer call) {
        int[] none = {
            Check.order(0, 1, 2, 2), Check.order(0, 1, 2), Check.order(0, 1, 2, 4), Check.order(0, 1, 2, 3, 4),
            Check.order(0, 1, 2, 3) | 1 << 12, Check.order(0, 1, 2, 3) | 1 << 31, 0, -1,
            Integer.MIN_VALUE, Integer.MAX_VALUE};
        for (int order : none) {
            Check.refused(name + "(" + order + ")", BAD_ARGUMENT, () -> call.accept(order));
        }
    }

    private static void tieOrder() {
        BallotDesk desk = new BallotDesk();
        Check.due("tieOrder(1)", desk.tieOrder(Check.order(2, 0, 3, 1)), Check.order(0, 1, 2, 3));
        refusesNoOrders("tieOrder", desk::tieOrder);
        Check.due("first of all in the tie order", desk.winner(0), 2);
        Check.due("the agenda is another", desk.agenda(Check.order(0, 1, 2, 3)), Check.order(0, 1, 2, 3));
        Check.due("tieOrder(2)", desk.tieOrder(Check.order(3, 2, 1, 0)), Check.order(2, 0, 3, 1));
    }

    private static void agenda() {
        BallotDesk desk = new BallotDesk();
        Check.due("agenda(1)", desk.agenda(Check.order(2, 0, 3, 1)), Check.order(0, 1, 2, 3));
        refusesNoOrders("agenda", desk::agenda);
        Check.due("the tie order is another", desk.winner(0), 0);
        Check.due("agenda(2)", desk.agenda(Check.order(3, 2, 1, 0)), Check.order(2, 0, 3, 1));
    }

    private static void weight() {
        BallotDesk desk = spoiled();
        Check.due("weight(0, 1000)", desk.weight(0, 1000), 2);
        Check.due("weight(1, 0)", desk.weight(1, 0), 1);
        Check.due("weight(2, 5)", desk.weight(2, 5), 0);
        Check.due("points of 0", desk.score(2, 0), 4025);
        Check.due("points of 1", desk.score(2, 1), 3000);
        Check.due("points of 2", desk.score(2, 2), 2020);
        for (int place : andExtremes(-1, 3, 7)) {
            Check.refused("weight(" + place + ", 1)", NO_ELEMENT, () -> desk.weight(place, 1));
            Check.refused("weight(" + place + ", -1)", NO_ELEMENT, () -> desk.weight(place, -1));
        }
        for (int weight : andExtremes(-1, 1001)) {
            Check.refused("weight(0, " + weight + ")", BAD_ARGUMENT, () -> desk.weight(0, weight));
        }
        Check.due("a refused weight() changes nothing", desk.weight(0, 1), 1000);
    }

    private static void winnersByScores() {
        BallotDesk desk = spoiled();
        Check.due("FIRSTS 4 3 2", desk.winners(0), Check.set(0));
        Check.due("LASTS 5 0 4", desk.winners(1), Check.set(1));
        Check.due("POINTS 8 12 7", desk.winners(2), Check.set(1));
        Check.due("DEFEAT 5 0 7", desk.winners(5), Check.set(1));
        Check.due("WINS 0 4 2", desk.winners(6), Check.set(1));
        BallotDesk circle = round();
        Check.due("FIRSTS 3 5 4", circle.winners(0), Check.set(1));
        Check.due("LASTS 5 4 3", circle.winners(1), Check.set(2));
        Check.due("POINTS 10 13 13", circle.winners(2), Check.set(1, 2));
        Check.due("DEFEAT 9 7 8", circle.winners(5), Check.set(1));
        Check.due("WINS 2 2 2", circle.winners(6), Check.set(0, 1, 2));
        for (int rule : andExtremes(-1, 12)) {
            Check.refused("winners(" + rule + ")", NO_ELEMENT, () -> desk.winners(rule));
        }
        BallotDesk empty = new BallotDesk();
        for (int rule = 0; rule < 11; rule++) {
            Check.due("no voters, winners(" + rule + ")", empty.winners(rule), 15);
        }
        Check.due("no voters, winners(11)", empty.winners(11), Check.set(0));
    }

    private static void winnersByRunoffAndElimination() {
        BallotDesk desk = spoiled();
        Check.due("RUNOFF of 0 and 1", desk.winners(3), Check.set(1));
        Check.due("ELIMINATION, 2 goes first", desk.winners(4), Check.set(1));
        desk.amount(2, 3);
        Check.due("RUNOFF of 0 and 1 or of 0 and 2", desk.winners(3), Check.set(1, 2));
        Check.due("ELIMINATION, 1 or 2 goes first", desk.winners(4), Check.set(1, 2));
        desk.amount(0, 6);
        Check.due("RUNOFF, neither beats the other", desk.winners(3), Check.set(0, 1, 2));
        BallotDesk four = desk(4, of(7, 4, 3), 0, 3, 1, 2, 1, 3, 2, 0, 2, 1, 3, 0);
        Check.due("RUNOFF of 0 and 1: 7 to 7", four.winners(3), Check.set(0, 1));
        four.amount(2, 5);
        Check.due("RUNOFF of 0 and 2: 7 to 9", four.winners(3), Check.set(2));
        Check.due("ELIMINATION: 3, then 1, then 0", four.winners(4), Check.set(2));
    }

    private static void winnersByPairs() {
        BallotDesk desk = spoiled();
        for (int rule = 7; rule <= 11; rule++) {
            Check.due("one beats all others, winners(" + rule + ")", desk.winners(rule), Check.set(1));
        }
        BallotDesk circle = round();
        Check.due("PATHS", circle.winners(7), Check.set(1));
        Check.due("LOCKS: 2 over 0, 1 over 2", circle.winners(8), Check.set(1));
        Check.due("AGREEMENT: 1 2 0", circle.winners(9), Check.set(1));
        Check.due("UNCOVERED", circle.winners(10), Check.set(0, 1, 2));
        Check.due("AGENDA: 0 out 1, 2 out 0", circle.winners(11), Check.set(2));
        circle.agenda(Check.order(2, 1, 0));
        Check.due("AGENDA: 1 out 2, 0 out 1", circle.winners(11), Check.set(0));
        BallotDesk even = desk(3, of(1, 1, 1), 0, 1, 2, 1, 2, 0, 2, 0, 1);
        Check.due("LOCKS by the tie order 0 1 2", even.winners(8), Check.set(0));
        even.tieOrder(Check.order(2, 1, 0));
        Check.due("LOCKS by the tie order 2 1 0: 2 over 0, 1 over 2", even.winners(8), Check.set(1));
        BallotDesk two = desk(2, of(3, 3), 0, 1, 1, 0);
        Check.due("AGENDA, none beats, tie order 0 1", two.winners(11), Check.set(0));
        two.tieOrder(Check.order(1, 0));
        Check.due("AGENDA, none beats, tie order 1 0", two.winners(11), Check.set(1));
        Check.due("LOCKS, nothing to lock", two.winners(8), Check.set(0, 1));
        Check.due("UNCOVERED, none beats", two.winners(10), Check.set(0, 1));
    }

    private static void winner() {
        BallotDesk desk = round();
        Check.due("winner(2) of 1 and 2", desk.winner(2), 1);
        desk.tieOrder(Check.order(0, 2, 1));
        Check.due("winner(2) with 2 ahead in the tie order", desk.winner(2), 2);
        Check.due("winner(0) stays", desk.winner(0), 1);
        Check.due("winner(6) of all", desk.winner(6), 0);
        for (int rule : andExtremes(-1, 12)) {
            Check.refused("winner(" + rule + ")", NO_ELEMENT, () -> desk.winner(rule));
        }
    }

    private static void score() {
        BallotDesk desk = spoiled();
        long[][] due = {{4, 3, 2}, {5, 0, 4}, {8, 12, 7}, null, null, {5, 0, 7}, {0, 4, 2}};
        for (int rule = 0; rule < 12; rule++) {
            int asked = rule;
            for (int candidate = 0; candidate < 3; candidate++) {
                int who = candidate;
                if (rule < 7 && due[rule] != null) {
                    Check.due("score(" + rule + ", " + who + ")", desk.score(rule, who), due[rule][who]);
                } else {
                    Check.refused("score(" + rule + ", " + who + ")", BAD_ARGUMENT, () -> desk.score(asked, who));
                }
            }
            Check.refused("score(" + rule + ", -1)", NO_ELEMENT, () -> desk.score(asked, -1));
            Check.refused("score(" + rule + ", 3)", NO_ELEMENT, () -> desk.score(asked, 3));
        }
        for (int rule : andExtremes(-1, 12)) {
            Check.refused("score(" + rule + ", 0)", NO_ELEMENT, () -> desk.score(rule, 0));
        }
        BallotDesk full = new BallotDesk();
        full.weight(0, 1000);
        for (int type = 0; type < 20; type++) {
            full.ballot(Check.order(3, 1, 2, 0), 100000);
        }
        Check.due("the most points there can be", full.score(2, 3), 2000000000L);
        Check.due("WINS without voters", new BallotDesk().score(6, 0), 3);
    }

    private static void pair() {
        BallotDesk desk = round();
        int[][] due = {{0, 7, 3}, {5, 0, 8}, {9, 4, 0}};
        for (int a = 0; a < 3; a++) {
            for (int b = 0; b < 3; b++) {
                Check.due("pair(" + a + ", " + b + ")", desk.pair(a, b), due[a][b]);
            }
        }
        for (int wrong : andExtremes(-1, 3, 7)) {
            Check.refused("pair(" + wrong + ", 0)", NO_ELEMENT, () -> desk.pair(wrong, 0));
            Check.refused("pair(0, " + wrong + ")", NO_ELEMENT, () -> desk.pair(0, wrong));
            Check.refused("pair(" + wrong + ", itself)", NO_ELEMENT, () -> desk.pair(wrong, wrong));
        }
    }

    private static void path() {
        BallotDesk desk = round();
        int[][] due = {{0, 7, 7}, {8, 0, 8}, {9, 7, 0}};
        for (int a = 0; a < 3; a++) {
            for (int b = 0; b < 3; b++) {
                Check.due("path(" + a + ", " + b + ")", desk.path(a, b), due[a][b]);
            }
        }
        Check.due("none from the one that all beat", spoiled().path(0, 1), 0);
        Check.due("none where none beats", new BallotDesk().path(0, 1), 0);
        for (int wrong : andExtremes(-1, 3, 7)) {
            Check.refused("path(" + wrong + ", 0)", NO_ELEMENT, () -> desk.path(wrong, 0));
            Check.refused("path(0, " + wrong + ")", NO_ELEMENT, () -> desk.path(0, wrong));
            Check.refused("path(" + wrong + ", itself)", NO_ELEMENT, () -> desk.path(wrong, wrong));
        }
    }

    private static void branches() {
        BallotDesk desk = spoiled();
        Check.due("branches(): 012, 01, 1", desk.branches(), 3);
        desk.amount(2, 3);
        Check.due("branches(): 012, 01, 02, 1, 2", desk.branches(), 5);
        desk.candidates(7);
        Check.due("branches() of 7 without voters", desk.branches(), 127);
        desk.candidates(2);
        Check.due("branches() of 2 without voters", desk.branches(), 3);
    }

    private static void step() {
        BallotDesk desk = spoiled();
        Check.due("step(0)", desk.step(0), 2);
        Check.due("step(1)", desk.step(1), 0);
        Check.due("step(2)", desk.step(2), 1);
        desk.amount(2, 3);
        desk.tieOrder(Check.order(0, 2, 1));
        Check.due("step(0), 1 behind 2 in the tie order", desk.step(0), 1);
        Check.due("step(1) then", desk.step(1), 0);
        Check.due("step(2) then", desk.step(2), 2);
        for (int k : andExtremes(-1, 3, 4, 7)) {
            Check.refused("step(" + k + ")", NO_ELEMENT, () -> desk.step(k));
        }
        BallotDesk empty = new BallotDesk();
        empty.tieOrder(Check.order(1, 3, 0, 2));
        int[] due = {2, 0, 3, 1};
        for (int k = 0; k < 4; k++) {
            Check.due("step(" + k + ") without voters", empty.step(k), due[k]);
        }
    }

    private static void disagreementAndAgreed() {
        BallotDesk desk = round();
        Check.due("disagreement(): the circle is cut where 7 voters go", desk.disagreement(), 4 + 3 + 7);
        Check.due("agreed()", desk.agreed(), Check.order(1, 2, 0));
        BallotDesk even = desk(3, of(1, 1), 0, 1, 2, 0, 2, 1);
        Check.due("disagreement() of two", even.disagreement(), 1);
        Check.due("agreed() by the tie order 0 1 2", even.agreed(), Check.order(0, 1, 2));
        even.tieOrder(Check.order(2, 1, 0));
        Check.due("agreed() by the tie order 2 1 0", even.agreed(), Check.order(0, 2, 1));
        BallotDesk empty = new BallotDesk();
        empty.tieOrder(Check.order(2, 0, 3, 1));
        Check.due("agreed() without voters is the tie order", empty.agreed(), Check.order(2, 0, 3, 1));
        Check.due("disagreement() without voters", empty.disagreement(), 0);
        BallotDesk large = new BallotDesk();
        large.candidates(7);
        for (int type = 0; type < 20; type++) {
            int order = type % 2 == 0 ? Check.order(0, 1, 2, 3, 4, 5, 6) : Check.order(6, 5, 4, 3, 2, 1, 0);
            large.ballot(order, 100000);
        }
        Check.due("the greatest least disagreement", large.disagreement(), 21000000);
    }

    private static void change() {
        BallotDesk desk = spoiled();
        Check.due("two of 2 1 0 help 1", desk.change(0, 2, 2), 2);
        Check.due("one of them makes 1 as good as 0, who is first in the tie order", desk.change(0, 2, 1), 0);
        Check.due("those whose first one wins", desk.change(0, 0, 4), 0);
        desk.tieOrder(Check.order(1, 0, 2));
        Check.due("one of them, 1 first in the tie order", desk.change(0, 2, 1), 2);
        Check.due("the ballots stay", desk.winners(0), Check.set(0));
        Check.due("the types stay", desk.count(1), 3);
        for (int wrong : andExtremes(-1, 12)) {
            Check.refused("change(" + wrong + ", 0, 1)", NO_ELEMENT, () -> desk.change(wrong, 0, 1));
            Check.refused("change(" + wrong + ", 0, 0)", NO_ELEMENT, () -> desk.change(wrong, 0, 0));
        }
        for (int wrong : andExtremes(-1, 3)) {
            Check.refused("change(0, " + wrong + ", 1)", NO_ELEMENT, () -> desk.change(0, wrong, 1));
            Check.refused("change(0, " + wrong + ", 0)", NO_ELEMENT, () -> desk.change(0, wrong, 0));
        }
        for (int wrong : andExtremes(-1, 0, 3)) {
            Check.refused("change(0, 2, " + wrong + ")", BAD_ARGUMENT, () -> desk.change(0, 2, wrong));
        }
        BallotDesk some = desk(3, of(4, 3, 2), 0, 1, 2, 1, 2, 0, 0, 2, 1);
        Check.due("LASTS 3 2 4", some.winner(1), 1);
        Check.due("one of four turns, three stay: LASTS 3 3 3", some.change(1, 0, 1), 1);
        Check.due("by", some.changed(), Check.order(0, 2, 1));
        desk.amount(2, 0);
        Check.refused("change() of a type without voters", BAD_ARGUMENT, () -> desk.change(0, 2, 1));
        changeOfTwentyTypes();
    }

    private static void changeOfTwentyTypes() {
        BallotDesk desk = new BallotDesk();
        desk.candidates(7);
        for (int type = 0; type < 18; type++) {
            desk.ballot(Check.order(0, 1, 2, 3, 4, 5, 6), 1);
        }
        desk.ballot(Check.order(6, 5, 4, 3, 2, 1, 0), 10);
        desk.ballot(Check.order(5, 6, 4, 3, 2, 1, 0), 10);
        Check.due("18 firsts against 10 and 10", desk.winner(0), 0);
        Check.due("twenty types, one more row", desk.change(0, 19, 10), 2);
        Check.due("by", desk.changed(), Check.order(6, 0, 1, 2, 3, 4, 5));
        Check.due("all twenty are there", desk.count(1), 20);
    }

    private static void changed() {
        BallotDesk desk = spoiled();
        desk.change(0, 2, 2);
        Check.due("changed()", desk.changed(), Check.order(1, 0, 2));
        Check.refused("change(0, 2, 9)", BAD_ARGUMENT, () -> desk.change(0, 2, 9));
        Check.refused("change(12, 2, 1)", NO_ELEMENT, () -> desk.change(12, 2, 1));
        Check.due("changed() after refused ones", desk.changed(), Check.order(1, 0, 2));
        desk.amount(0, 9);
        Check.due("changed() after other calls", desk.changed(), Check.order(1, 0, 2));
        desk.change(0, 0, 1);
        Check.due("changed() after one that found none", desk.changed(), BallotDesk.NONE);
        BallotDesk places = desk(3, of(3), 0, 1, 2);
        places.weight(0, 0);
        places.weight(1, 2);
        places.weight(2, 2);
        Check.due("POINTS against those at place 0", places.winner(2), 1);
        Check.due("a better one", places.change(2, 0, 3), 1);
        Check.due("the least order that does not have 0 first", places.changed(), Check.order(1, 0, 2));
        BallotDesk better = desk(4, of(1), 3, 2, 0, 1);
        better.weight(0, 0);
        better.weight(1, 0);
        better.weight(2, 10);
        Check.due("0 1 2 3 would make 2 win, 0 1 3 2 makes 3 win", better.change(2, 0, 1), 1);
        Check.due("by the latter", better.changed(), Check.order(0, 1, 3, 2));
    }

    private static void properties() {
        BallotDesk desk = spoiled();
        keeps(desk, 0, 0, 1);
        keeps(desk, 0, 1, 0);
        for (int rule = 3; rule < 12; rule++) {
            keeps(desk, rule, 0, BallotDesk.NONE);
            keeps(desk, rule, 1, BallotDesk.NONE);
        }
        BallotDesk beside = desk(3, of(2, 2, 1), 0, 1, 2, 1, 0, 2, 2, 0, 1);
        Check.due("0 beats both, 1 has as many firsts", beside.winners(0), Check.set(0, 1));
        keeps(beside, 0, 0, 0);
        BallotDesk behind = desk(3, of(2, 2, 1), 0, 1, 2, 2, 0, 1, 1, 0, 2);
        Check.due("both beat 2, who has as many firsts as 0", behind.winners(0), Check.set(0, 2));
        keeps(behind, 0, 1, 2);
        for (int wrong : andExtremes(-1, 12)) {
            Check.refused("property(" + wrong + ", 0)", NO_ELEMENT, () -> desk.property(wrong, 0));
        }
        for (int wrong : andExtremes(-1, 5)) {
            Check.refused("property(0, " + wrong + ")", NO_ELEMENT, () -> desk.property(0, wrong));
        }
    }

    private static void propertyOfRaising() {
        BallotDesk desk = desk(3, of(39, 25, 10, 26), 0, 1, 2, 1, 2, 0, 1, 0, 2, 2, 0, 1);
        Check.due("0 wins by elimination", desk.winner(4), 0);
        keeps(desk, 4, 2, 2);
        keeps(desk, 3, 2, 2);
        keeps(desk, 0, 2, BallotDesk.NONE);
        keeps(desk, 4, 3, BallotDesk.NONE);
        BallotDesk second = placeOneCounts(1, 1, 0, 2);
        keeps(second, 2, 2, 0);
    }

    /** Ten points for place 1, none for the others: one gains by what should harm. */
    private static BallotDesk placeOneCounts(int amount, int... order) {
        BallotDesk desk = desk(3, of(amount), order);
        desk.weight(0, 0);
        desk.weight(1, 10);
        return desk;
    }

    private static void propertyOfJoining() {
        BallotDesk desk = placeOneCounts(5, 1, 0, 2);
        desk.ballot(Check.order(0, 1, 2), 5);
        keeps(desk, 2, 3, 1);
        desk.amount(1, 0);
        keeps(desk, 2, 3, BallotDesk.NONE);
        desk.amount(0, 1);
        desk.tieOrder(Check.order(1, 0, 2));
        keeps(desk, 2, 3, 1);
        BallotDesk twice = placeOneCounts(3, 1, 0, 2);
        twice.ballot(Check.order(0, 1, 2), 1);
        twice.ballot(Check.order(0, 1, 2), 1);
        keeps(twice, 2, 3, BallotDesk.NONE);
        BallotDesk level = desk(3, of(4, 4), 0, 1, 2, 1, 2, 0);
        Check.due("0 by the tie order alone", level.winners(0), Check.set(0, 1));
        keeps(level, 0, 3, BallotDesk.NONE);
    }

    private static void propertyOfLeaving() {
        BallotDesk desk = spoiled();
        keeps(desk, 0, 4, 1);
        keeps(desk, 4, 4, BallotDesk.NONE);
        BallotDesk two = desk(2, of(1), 1, 0);
        for (int rule = 0; rule < 12; rule++) {
            keeps(two, rule, 4, BallotDesk.NONE);
        }
        BallotDesk circle = round();
        Check.due("the agenda leaves 2", circle.winner(11), 2);
        keeps(circle, 11, 4, 0);
        BallotDesk weighed = desk(3, of(2, 1), 0, 1, 2, 1, 2, 0);
        weighed.weight(2, 1000);
        Check.due("POINTS 1004 4 2001", weighed.winner(2), 2);
        keeps(weighed, 2, 4, 0);
        BallotDesk level = desk(3, of(4, 4, 1), 0, 1, 2, 1, 2, 0, 2, 0, 1);
        Check.due("1 wins too and is not left out", level.winners(0), Check.set(0, 1));
        keeps(level, 0, 4, BallotDesk.NONE);
        BallotDesk tied = desk(3, of(2, 3, 1), 0, 1, 2, 1, 0, 2, 2, 0, 1);
        tied.tieOrder(Check.order(1, 0, 2));
        keeps(tied, 0, 4, BallotDesk.NONE);
        tied.tieOrder(Check.order(2, 0, 1));
        keeps(tied, 0, 4, 2);
        BallotDesk turned = desk(4, of(1, 1, 1), 1, 2, 3, 0, 2, 3, 1, 0, 3, 1, 2, 0);
        turned.agenda(Check.order(0, 3, 2, 1));
        Check.due("the agenda 0 3 2 1 leaves 1", turned.winner(11), 1);
        keeps(turned, 11, 4, 2);
        keeps(new BallotDesk(), 0, 4, BallotDesk.NONE);
    }

    /** breaker: what witness() is due to tell, NONE where the property is kept. */
    private static void keeps(BallotDesk desk, int rule, int property, int breaker) {
        String call = "property(" + rule + ", " + property + ")";
        Check.due(call, desk.property(rule, property), breaker == BallotDesk.NONE);
        Check.due("witness() after " + call, desk.witness(), breaker);
    }

    private static void witness() {
        BallotDesk desk = spoiled();
        keeps(desk, 0, 0, 1);
        Check.refused("property(12, 0)", NO_ELEMENT, () -> desk.property(12, 0));
        Check.refused("property(0, 5)", NO_ELEMENT, () -> desk.property(0, 5));
        Check.due("witness() after refused ones", desk.witness(), 1);
        desk.drop(0);
        Check.due("witness() after other calls", desk.witness(), 1);
        keeps(desk, 0, 0, BallotDesk.NONE);
    }

    private static void circle() {
        BallotDesk desk = round();
        for (int k = 0; k < 3; k++) {
            Check.due("circle(" + k + ")", desk.circle(k), k);
        }
        BallotDesk back = desk(4, of(1, 1, 1), 0, 3, 2, 1, 0, 2, 1, 3, 0, 1, 3, 2);
        Check.due("circle(0) of 1 3 2", back.circle(0), 1);
        Check.due("circle(1) of 1 3 2", back.circle(1), 3);
        Check.due("circle(2) of 1 3 2", back.circle(2), 2);
        for (int k = 0; k < 3; k++) {
            Check.due("no circle(" + k + ")", spoiled().circle(k), BallotDesk.NONE);
        }
        for (int k : andExtremes(-1, 3)) {
            Check.refused("circle(" + k + ")", NO_ELEMENT, () -> desk.circle(k));
        }
    }

    private static void clones() {
        BallotDesk desk = desk(4, of(5, 4), 0, 1, 2, 3, 3, 1, 0, 2);
        Check.due("0 and 1", desk.clones(Check.set(0, 1)), true);
        Check.due("1 and 2", desk.clones(Check.set(1, 2)), false);
        Check.due("0, 1 and 2", desk.clones(Check.set(0, 1, 2)), true);
        Check.due("0, 1 and 3", desk.clones(Check.set(0, 1, 3)), false);
        Check.due("all", desk.clones(15), true);
        desk.amount(1, 0);
        Check.due("1 and 2, the other type without voters", desk.clones(Check.set(1, 2)), true);
        for (int wrong : andExtremes(0, 1, 8, 16, 17, 19, 128, -1, Integer.MIN_VALUE + 3)) {
            Check.refused("clones(" + wrong + ")", BAD_ARGUMENT, () -> desk.clones(wrong));
        }
        Check.due("without voters", new BallotDesk().clones(5), true);
    }

    private static void count() {
        BallotDesk desk = spoiled();
        Check.due("count(0)", desk.count(0), 3);
        Check.due("count(1)", desk.count(1), 3);
        Check.due("count(2)", desk.count(2), 9);
        for (int what : andExtremes(-1, 3)) {
            Check.refused("count(" + what + ")", BAD_ARGUMENT, () -> desk.count(what));
        }
    }
}
