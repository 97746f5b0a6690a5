import java.util.ArrayList;
import java.util.List;
import java.util.NoSuchElementException;

/**
 * All that can be learnt of a desk, by some 400 calls at most (so that with what made it it stays under 512).
 * The desk is spent thereafter: types are told apart by taking the voters of all others away.
 */
final class Answers {
    private static final int[] SCORING = {0, 1, 2, 5, 6};
    /** Not all of them, for the time that seven candidates take. */
    private static final int[] CHANGED_BY = {0, 2, 4};
    private static final long REFUSED = -99;

    private final BallotDesk desk;
    private final List<String> told = new ArrayList<>();
    private int n;
    private int types;

    private Answers(BallotDesk desk) {
        this.desk = desk;
    }

    static List<String> of(BallotDesk desk) {
        Answers answers = new Answers(desk);
        answers.tellLatest();
        answers.tellCounts();
        answers.tellRules();
        answers.tellPairs();
        answers.tellSettings();
        answers.tellWhatCouldBe();
        answers.tellTypes();
        return answers.told;
    }

    private void tell(String call, long answer) {
        told.add(call + " = " + answer);
    }

    /** First of all, as change() and property() are asked later on. */
    private void tellLatest() {
        tell("changed()", desk.changed());
        tell("witness()", desk.witness());
    }

    private void tellCounts() {
        n = desk.count(0);
        types = desk.count(1);
        tell("count(0)", n);
        tell("count(1)", types);
        tell("count(2)", desk.count(2));
    }

    private void tellRules() {
        for (int rule = 0; rule < 12; rule++) {
            tell("winners(" + rule + ")", desk.winners(rule));
            tell("winner(" + rule + ")", desk.winner(rule));
        }
        for (int rule : SCORING) {
            for (int candidate = 0; candidate < n; candidate++) {
                tell("score(" + rule + ", " + candidate + ")", desk.score(rule, candidate));
            }
        }
        tell("branches()", desk.branches());
        for (int k = 0; k < n; k++) {
            tell("step(" + k + ")", desk.step(k));
        }
        tell("disagreement()", desk.disagreement());
        tell("agreed()", desk.agreed());
    }

    private void tellPairs() {
        for (int a = 0; a < n; a++) {
            for (int b = 0; b < n; b++) {
                tell("pair(" + a + ", " + b + ")", desk.pair(a, b));
                tell("path(" + a + ", " + b + ")", desk.path(a, b));
                if (a < b) {
                    int set = Check.set(a, b);
                    tell("clones(" + set + ")", desk.clones(set) ? 1 : 0);
                }
            }
        }
        for (int k = 0; k < 3; k++) {
            tell("circle(" + k + ")", desk.circle(k));
        }
    }

    private void tellSettings() {
        int some = Orders.ascending(n);
        int tie = desk.tieOrder(some);
        int agenda = desk.agenda(some);
        tell("tieOrder()", tie);
        tell("agenda()", agenda);
        desk.tieOrder(tie);
        desk.agenda(agenda);
        for (int place = 0; place < n; place++) {
            int weight = desk.weight(place, 0);
            tell("weight(" + place + ")", weight);
            desk.weight(place, weight);
        }
    }

    private void tellWhatCouldBe() {
        for (int rule = 0; rule < 12; rule++) {
            for (int property = 0; property < 5; property++) {
                tell("property(" + rule + ", " + property + ")", desk.property(rule, property) ? 1 : 0);
            }
        }
        for (int rule : CHANGED_BY) {
            tell("change(" + rule + ", 0, 1)", answerOfChange(rule));
            tell("changed() then", desk.changed());
        }
    }

    private long answerOfChange(int rule) {
        try {
            return desk.change(rule, 0, 1);
        } catch (NoSuchElementException | IllegalArgumentException e) {
            return REFUSED;
        }
    }

    /** Where one voter votes alone, agreed() is that voter's order. */
    private void tellTypes() {
        for (int type = 0; type < types; type++) {
            tell("amount of " + type, desk.amount(type, 0));
        }
        for (int type = 0; type < types; type++) {
            desk.amount(type, 1);
            tell("order of " + type, desk.agreed());
            desk.amount(type, 0);
        }
    }

    /** Tells whether both are the same, and if not, where they part. */
    static void same(String when, List<String> before, List<String> after) {
        boolean same = before.equals(after);
        String parted = "";
        for (int k = 0; !same && k < Math.min(before.size(), after.size()) && parted.isEmpty(); k++) {
            if (!before.get(k).equals(after.get(k))) {
                parted = ": was " + before.get(k) + ", is " + after.get(k);
            }
        }
        Check.due(when + " changes nothing" + parted, same, true);
    }
}
