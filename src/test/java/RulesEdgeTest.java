import java.util.NoSuchElementException;

/**
 * Promises 9 to 17 and the twelve rules, at the edges that the document names: no voters and the most there
 * can be, one voter more or less, two candidates and seven.
 */
public final class RulesEdgeTest {
    private static final Class<?> NO_ELEMENT = NoSuchElementException.class;
    private static final Class<?> BAD_ARGUMENT = IllegalArgumentException.class;
    private static final int MOST = Desks.MOST_VOTERS;
    private static final int[] FEWEST_AND_MOST = {2, 7};

    private RulesEdgeTest() {
    }

    public static void main(String[] args) {
        rulesByNumber();
        neverEmpty();
        allVoteTheSame();
        noneBeatsWhereBothAreEqual();
        firstsAndLasts();
        pointsAtBothEnds();
        runoffOfTwoAndOfSeven();
        eliminationAtTheEnds();
        defeatAndWins();
        pathsThatAreNone();
        locksInTheTieOrder();
        agreementAtTheEnds();
        uncoveredAtTheEnds();
        agendaAtTheEnds();
        winnerByTheTieOrder();
        scoresAtTheEnds();
        pairsAtTheEnds();
        pathsAtTheEnds();
        branchesAtTheEnds();
        stepsAtTheEnds();
        disagreementAtTheEnds();
        agreedAtTheEnds();
        theLastCall();
        Check.end();
    }

    private static void rulesByNumber() {
        BallotDesk desk = Desks.with(2, Check.order(1, 0), 1);
        for (int rule = 0; rule < 12; rule++) {
            Check.due("winners(" + rule + ") of two", desk.winners(rule), Check.set(1));
            Check.due("winner(" + rule + ") of two", desk.winner(rule), 1);
        }
        Check.refused("winners(-1)", NO_ELEMENT, () -> desk.winners(-1));
        Check.refused("winners(12)", NO_ELEMENT, () -> desk.winners(12));
        Check.refused("winner(-1)", NO_ELEMENT, () -> desk.winner(-1));
        Check.refused("winner(12)", NO_ELEMENT, () -> desk.winner(12));
    }

    /** "WINNERS (a set, never empty)" */
    private static void neverEmpty() {
        for (int n = 2; n <= 7; n++) {
            allWin("no types of " + n, Desks.of(n), n);
            allWin("twenty of 0 voters of " + n, Desks.twenty(n, Orders.ascending(n), Orders.turned(n, 1), 0), n);
            BallotDesk emptied = Desks.with(n, Orders.ascending(n), 9);
            emptied.amount(0, 0);
            allWin("emptied of " + n, emptied, n);
            BallotDesk dropped = Desks.with(n, Orders.ascending(n), 9);
            dropped.drop(0);
            allWin("dropped of " + n, dropped, n);
        }
    }

    /** An agenda has but one winner. */
    private static void allWin(String when, BallotDesk desk, int n) {
        desk.tieOrder(Orders.descending(n));
        for (int rule = 0; rule < 12; rule++) {
            int due = rule == 11 ? Check.set(n - 1) : Desks.everyone(n);
            Check.due(when + ": winners(" + rule + ")", desk.winners(rule), due);
            Check.due(when + ": winner(" + rule + ")", desk.winner(rule), n - 1);
        }
    }

    private static void allVoteTheSame() {
        for (int n = 2; n <= 7; n++) {
            for (int amount : new int[] {1, MOST}) {
                firstWins("down, " + amount, Desks.twenty(n, Orders.descending(n), Orders.descending(n), amount), n - 1, 0);
                firstWins("up, " + amount, Desks.twenty(n, Orders.ascending(n), Orders.ascending(n), amount), 0, n - 1);
                firstWins("down, one type", Desks.with(n, Orders.descending(n), amount), n - 1, 0);
                firstWins("up, one type", Desks.with(n, Orders.ascending(n), amount), 0, n - 1);
                firstWins("turned, one type", Desks.with(n, Orders.turned(n, 1), amount), 1, 0);
            }
        }
    }

    private static void firstWins(String when, BallotDesk desk, int first, int last) {
        int n = desk.count(0);
        for (int rule = 0; rule < 12; rule++) {
            int due = rule == 1 ? Desks.everyone(n) - Check.set(last) : Check.set(first);
            Check.due(when + " of " + n + ": winners(" + rule + ")", desk.winners(rule), due);
        }
    }

    /** "a BEATS b if that is more than pair(b, a)" */
    private static void noneBeatsWhereBothAreEqual() {
        BallotDesk desk = Desks.twenty(2, Check.order(0, 1), Check.order(1, 0), MOST);
        for (int rule = 0; rule < 11; rule++) {
            Check.due("equal: winners(" + rule + ")", desk.winners(rule), Check.set(0, 1));
        }
        Check.due("equal: no path", desk.path(0, 1) + desk.path(1, 0), 0);
        Check.due("equal: no defeat", desk.score(5, 0) + desk.score(5, 1), 0);
        desk.amount(0, MOST - 1);
        for (int rule = 0; rule < 12; rule++) {
            Check.due("one less: winners(" + rule + ")", desk.winners(rule), Check.set(1));
        }
        Check.due("one less: a path", desk.path(1, 0), 10 * MOST);
        Check.due("one less: a defeat", desk.score(5, 0), 10 * MOST);
    }

    /** "those at place 0 of the most voters", "those at the last place of the fewest" */
    private static void firstsAndLasts() {
        BallotDesk desk = Desks.twenty(7, Orders.ascending(7), Orders.turned(7, 1), MOST);
        Check.due("firsts: 0 and 1", desk.winners(0), Check.set(0, 1));
        Check.due("lasts: all but 0 and 6", desk.winners(1), Check.set(1, 2, 3, 4, 5));
        desk.amount(19, MOST - 1);
        Check.due("firsts: 0 by one voter", desk.winners(0), Check.set(0));
        BallotDesk two = Desks.with(2, Check.order(0, 1), 1);
        two.ballot(Check.order(1, 0), 1);
        Check.due("lasts of two: both", two.winners(1), Check.set(0, 1));
        two.amount(0, 2);
        Check.due("lasts of two: 0 by one voter", two.winners(1), Check.set(0));
    }

    /** "those with the most points, a voter's weight of its place each" */
    private static void pointsAtBothEnds() {
        BallotDesk desk = Desks.twenty(7, Orders.ascending(7), Orders.ascending(7), MOST);
        for (int place = 0; place < 7; place++) {
            desk.weight(place, 1000);
        }
        Check.due("all weights 1000: all win", desk.winners(2), Desks.everyone(7));
        Check.due("the most points", desk.score(2, 6), 2000000000L);
        desk.weight(6, 999);
        Check.due("one weight less", desk.winners(2), Desks.everyone(6));
        for (int place = 0; place < 7; place++) {
            desk.weight(place, 0);
        }
        Check.due("all weights 0: all win", desk.winners(2), Desks.everyone(7));
        desk.weight(6, 1);
        Check.due("the last place alone counts", desk.winners(2), Check.set(6));
    }

    /** "any two such that none of the others is first of more voters than one of the two", "both if none does" */
    private static void runoffOfTwoAndOfSeven() {
        BallotDesk two = Desks.with(2, Check.order(1, 0), 3);
        two.ballot(Check.order(0, 1), 3);
        Check.due("two, equal: both", two.winners(3), Check.set(0, 1));
        two.amount(0, 2);
        Check.due("two: 0", two.winners(3), Check.set(0));
        BallotDesk seven = Desks.with(7, Check.order(3, 0, 1, 2, 4, 5, 6), 5);
        Check.due("3 has all firsts, may meet anyone, and beats all", seven.winners(3), Check.set(3));
        seven.ballot(Check.order(4, 6, 5, 2, 1, 0, 3), 5);
        seven.ballot(Check.order(6, 5, 2, 1, 0, 4, 3), 5);
        Check.due("4 beats 3, 6 beats 3, 4 beats 6", seven.winners(3), Check.set(4, 6));
        seven.amount(2, 4);
        Check.due("3 and 4 alone may meet: 5 to 9", seven.winners(3), Check.set(4));
        seven.amount(0, 4);
        Check.due("4 meets 3 or 6, they do not meet", seven.winners(3), Check.set(4));
        seven.amount(2, 0);
        seven.amount(1, 0);
        Check.due("one type of voters is left", seven.winners(3), Check.set(3));
    }

    /** "any of those goes that are ahead of all others of the set for the fewest voters" */
    private static void eliminationAtTheEnds() {
        BallotDesk two = Desks.with(2, Check.order(1, 0), MOST);
        Check.due("two: the one that leads", two.winners(4), Check.set(1));
        two.ballot(Check.order(0, 1), MOST);
        Check.due("two, equal: either can be left", two.winners(4), Check.set(0, 1));
        two.amount(0, MOST - 1);
        Check.due("two, by one voter", two.winners(4), Check.set(0));
        BallotDesk seven = Desks.with(7, Orders.turned(7, 4), 1);
        Check.due("one voter: the first is left", seven.winners(4), Check.set(4));
        seven.ballot(Orders.turned(7, 1), 0);
        Check.due("a type of 0 voters counts nothing", seven.winners(4), Check.set(4));
        Check.due("each goes before the next", graded(7).winners(4), Check.set(6));
    }

    /** 0 first of 1 voter, 1 of 2, 2 of 4, and so on: each one's voters, when it goes, are the next one's. */
    private static BallotDesk graded(int n) {
        BallotDesk desk = Desks.of(n);
        for (int by = 0; by < n; by++) {
            desk.ballot(Orders.turned(n, by), 1 << by);
        }
        return desk;
    }

    /** "0 if none does", "2 for each one that it beats, 1 for each that it neither beats nor is beaten by" */
    private static void defeatAndWins() {
        BallotDesk seven = Desks.twenty(7, Orders.ascending(7), Orders.ascending(7), MOST);
        for (int candidate = 0; candidate < 7; candidate++) {
            Check.due("defeat of " + candidate, seven.score(5, candidate), candidate == 0 ? 0 : 20 * MOST);
            Check.due("wins of " + candidate, seven.score(6, candidate), 2 * (6 - candidate));
        }
        for (int n = 2; n <= 7; n++) {
            BallotDesk none = Desks.of(n);
            Check.due("no defeat without voters", none.score(5, n - 1), 0);
            Check.due("one for each other of " + n, none.score(6, n - 1), n - 1);
        }
    }

    /** "the strength of the strongest (0: none)" */
    private static void pathsThatAreNone() {
        BallotDesk line = Desks.with(7, Orders.ascending(7), 3);
        for (int a = 0; a < 7; a++) {
            for (int b = 0; b < 7; b++) {
                Check.due("path(" + a + ", " + b + ") of a line", line.path(a, b), a < b ? 3 : 0);
            }
        }
        BallotDesk turning = Desks.turning(7, MOST);
        Check.due("6 beats 0 for six of seven", turning.path(6, 0), 6 * MOST);
        Check.due("0 does not beat 6, but there is a way round", turning.path(0, 6), 6 * MOST);
        Check.due("all win", turning.winners(7), Desks.everyone(7));
        turning.amount(0, MOST - 1);
        Check.due("6 to 0 is one voter above all others", turning.path(6, 0), 6 * MOST);
        Check.due("so the way round is the weaker one", turning.path(0, 6), 6 * MOST - 1);
        Check.due("and 0 wins no more", turning.winners(7), Desks.everyone(7) - Check.set(0));
    }

    /** "by descending pair(a, b), then by a's .. place in the tie order", "those that would close a circle" */
    private static void locksInTheTieOrder() {
        for (int n = 3; n <= 7; n++) {
            BallotDesk turning = Desks.turning(n, n == 7 ? MOST : 1);
            for (int first = 0; first < n; first++) {
                turning.tieOrder(Orders.turned(n, first));
                String told = "the one over " + first + " of " + n + " comes last, and would close a circle";
                Check.due(told, turning.winners(8), Check.set(first));
            }
        }
        BallotDesk turning = Desks.turning(7, MOST);
        turning.amount(0, MOST - 1);
        Check.due("6 over 0 is one voter above the others, 5 over 6 comes last", turning.winners(8), Check.set(6));
        Check.due("two: the only pair", Desks.with(2, Check.order(1, 0), 1).winners(8), Check.set(1));
    }

    /** "those at place 0 of any order with the least" */
    private static void agreementAtTheEnds() {
        BallotDesk seven = Desks.twenty(7, Orders.ascending(7), Orders.descending(7), MOST);
        Check.due("any order is as good", seven.winners(9), Desks.everyone(7));
        seven.amount(0, MOST - 1);
        Check.due("one voter less", seven.winners(9), Check.set(6));
    }

    /** "a covers b if it beats b and all that b beats: those that nobody covers" */
    private static void uncoveredAtTheEnds() {
        Check.due("two: the one that beats", Desks.with(2, Check.order(1, 0), 1).winners(10), Check.set(1));
        Check.due("seven in a line: the first", Desks.with(7, Orders.turned(7, 6), 1).winners(10), Check.set(6));
        BallotDesk four = Desks.with(4, Check.order(0, 1, 2, 3), 1);
        four.ballot(Check.order(1, 2, 0, 3), 1);
        four.ballot(Check.order(2, 0, 1, 3), 1);
        Check.due("the one that a circle beats is covered", four.winners(10), Check.set(0, 1, 2));
    }

    /** "who beats the other stays; if none does, the one ahead in the tie order" */
    private static void agendaAtTheEnds() {
        BallotDesk two = Desks.twenty(2, Check.order(0, 1), Check.order(1, 0), MOST);
        two.agenda(Check.order(1, 0));
        Check.due("two, equal: ahead in the tie order", two.winners(11), Check.set(0));
        two.tieOrder(Check.order(1, 0));
        Check.due("two, equal: ahead in the other tie order", two.winners(11), Check.set(1));
        two.amount(19, MOST - 1);
        Check.due("two: who beats", two.winners(11), Check.set(0));
        BallotDesk turning = Desks.turning(7, 1);
        Check.due("0 beats 1, 2 and 3, 4 beats it, and 5 and 6", turning.winners(11), Check.set(4));
        turning.agenda(Orders.turned(7, 4));
        Check.due("4 beats 5, 6 and 0, 1 beats it, and 2 and 3", turning.winners(11), Check.set(1));
        turning.agenda(Orders.descending(7));
        Check.due("each is beaten by the next, down to 0", turning.winners(11), Check.set(0));
    }

    /** "that of its winners who is first in the tie order" */
    private static void winnerByTheTieOrder() {
        BallotDesk desk = Desks.twenty(7, Orders.turned(7, 3), Orders.turned(7, 6), MOST);
        Check.due("3 and 6 are first of as many", desk.winners(0), Check.set(3, 6));
        Check.due("3 is ahead", desk.winner(0), 3);
        desk.tieOrder(Orders.descending(7));
        Check.due("6 is ahead", desk.winner(0), 6);
        desk.tieOrder(Orders.turned(7, 0));
        desk.amount(0, MOST - 1);
        Check.due("6 wins alone, though last in the tie order", desk.winner(0), 6);
    }

    /** "NoSuchElementException: rule or candidate.", "the rule is none of 0, 1, 2, 5, 6" */
    private static void scoresAtTheEnds() {
        for (int n : FEWEST_AND_MOST) {
            BallotDesk desk = Desks.with(n, Orders.ascending(n), 1);
            int[] rules = {0, 1, 2, 5, 6};
            int[] ofFirst = {1, 0, n - 1, 0, 2 * n - 2};
            int[] ofLast = {0, 1, 0, 1, 0};
            for (int k = 0; k < rules.length; k++) {
                int rule = rules[k];
                Check.due("score(" + rule + ", 0) of " + n, desk.score(rule, 0), ofFirst[k]);
                Check.due("score(" + rule + ", last) of " + n, desk.score(rule, n - 1), ofLast[k]);
                Check.refused("score(" + rule + ", -1)", NO_ELEMENT, () -> desk.score(rule, -1));
                Check.refused("score(" + rule + ", " + n + ")", NO_ELEMENT, () -> desk.score(rule, n));
            }
            for (int rule : new int[] {3, 4, 7, 8, 9, 10, 11}) {
                Check.refused("score(" + rule + ", 0)", BAD_ARGUMENT, () -> desk.score(rule, 0));
                Check.refused("score(" + rule + ", " + n + ")", NO_ELEMENT, () -> desk.score(rule, n));
            }
            Check.refused("score(-1, 0)", NO_ELEMENT, () -> desk.score(-1, 0));
            Check.refused("score(12, 0)", NO_ELEMENT, () -> desk.score(12, 0));
            Check.refused("score(12, " + n + ")", NO_ELEMENT, () -> desk.score(12, n));
        }
    }

    /** "pair(a, b), 0 for a = b." */
    private static void pairsAtTheEnds() {
        for (int n : FEWEST_AND_MOST) {
            BallotDesk desk = Desks.twenty(n, Orders.ascending(n), Orders.ascending(n), MOST);
            for (int a = 0; a < n; a++) {
                Check.due("pair(" + a + ", itself)", desk.pair(a, a), 0);
            }
            Check.due("the most voters", desk.pair(0, n - 1), 20 * MOST);
            Check.due("and none", desk.pair(n - 1, 0), 0);
            Check.refused("pair(-1, 0)", NO_ELEMENT, () -> desk.pair(-1, 0));
            Check.refused("pair(0, -1)", NO_ELEMENT, () -> desk.pair(0, -1));
            Check.refused("pair(" + n + ", 0)", NO_ELEMENT, () -> desk.pair(n, 0));
            Check.refused("pair(0, " + n + ")", NO_ELEMENT, () -> desk.pair(0, n));
            Check.refused("pair(" + n + ", itself)", NO_ELEMENT, () -> desk.pair(n, n));
        }
    }

    /** "path(a, b), 0 for a = b.": also where a path leads back to a. */
    private static void pathsAtTheEnds() {
        for (int n = 3; n <= 7; n++) {
            BallotDesk desk = Desks.turning(n, MOST);
            for (int a = 0; a < n; a++) {
                Check.due("path(" + a + ", itself) of " + n, desk.path(a, a), 0);
            }
        }
        for (int n : FEWEST_AND_MOST) {
            BallotDesk desk = Desks.twenty(n, Orders.ascending(n), Orders.ascending(n), MOST);
            Check.due("the strongest there can be", desk.path(0, n - 1), 20 * MOST);
            Check.due("and none", desk.path(n - 1, 0), 0);
            Check.refused("path(-1, 0)", NO_ELEMENT, () -> desk.path(-1, 0));
            Check.refused("path(0, -1)", NO_ELEMENT, () -> desk.path(0, -1));
            Check.refused("path(" + n + ", 0)", NO_ELEMENT, () -> desk.path(n, 0));
            Check.refused("path(0, " + n + ")", NO_ELEMENT, () -> desk.path(0, n));
            Check.refused("path(" + n + ", itself)", NO_ELEMENT, () -> desk.path(n, n));
        }
    }

    /** "that of all and those of one counted" */
    private static void branchesAtTheEnds() {
        for (int n = 2; n <= 7; n++) {
            Check.due("no voters: every set of " + n, Desks.of(n).branches(), Desks.everyone(n));
            BallotDesk one = Desks.with(n, Orders.descending(n), 1);
            Check.due("one voter: every set of " + n + " with its first", one.branches(), 1 << (n - 1));
            one.amount(0, 0);
            Check.due("none again", one.branches(), Desks.everyone(n));
            Check.due("one goes after the other of " + n, graded(n).branches(), n);
        }
    }

    /** "the one left alone for k = n - 1", "k is not 0 .. n - 1" */
    private static void stepsAtTheEnds() {
        for (int n = 2; n <= 7; n++) {
            BallotDesk graded = graded(n);
            BallotDesk same = Desks.twenty(n, Orders.ascending(n), Orders.ascending(n), MOST);
            BallotDesk empty = Desks.of(n);
            empty.tieOrder(Orders.descending(n));
            for (int k = 0; k < n; k++) {
                Check.due("step(" + k + ") of " + n + ", graded", graded.step(k), k);
                Check.due("step(" + k + ") of " + n + ", all the same", same.step(k), n - 1 - k);
                Check.due("step(" + k + ") of " + n + ", no voters", empty.step(k), k);
            }
            int beyond = n;
            Check.refused("step(-1) of " + n, NO_ELEMENT, () -> graded.step(-1));
            Check.refused("step(" + n + ") of " + n, NO_ELEMENT, () -> graded.step(beyond));
        }
    }

    private static void disagreementAtTheEnds() {
        for (int n = 2; n <= 7; n++) {
            Check.due("no types", Desks.of(n).disagreement(), 0);
            Check.due("all the same", Desks.twenty(n, Orders.turned(n, 1), Orders.turned(n, 1), MOST).disagreement(), 0);
            BallotDesk halves = Desks.twenty(n, Orders.ascending(n), Orders.descending(n), MOST);
            int pairs = n * (n - 1) / 2;
            Check.due("half against half of " + n, halves.disagreement(), pairs * 10L * MOST);
            halves.amount(19, MOST - 1);
            Check.due("one less", halves.disagreement(), pairs * (10L * MOST - 1));
        }
    }

    /** "the one that has at its first place where they differ the candidate that is first in the tie order" */
    private static void agreedAtTheEnds() {
        for (int n = 2; n <= 7; n++) {
            int tie = Orders.turned(n, n / 2);
            BallotDesk empty = Desks.of(n);
            empty.tieOrder(tie);
            Check.due("no types: the tie order of " + n, empty.agreed(), tie);
            BallotDesk halves = Desks.twenty(n, Orders.ascending(n), Orders.descending(n), MOST);
            halves.tieOrder(tie);
            Check.due("half against half: the tie order of " + n, halves.agreed(), tie);
            halves.amount(19, MOST - 1);
            Check.due("one less: the other half's of " + n, halves.agreed(), Orders.ascending(n));
        }
        BallotDesk last = Desks.with(7, Orders.ascending(7), 1);
        last.ballot(Check.order(0, 1, 2, 3, 4, 6, 5), 1);
        Check.due("they differ at the last two places alone", last.agreed(), Orders.ascending(7));
        last.tieOrder(Orders.descending(7));
        Check.due("and 6 is ahead of 5", last.agreed(), Check.order(0, 1, 2, 3, 4, 6, 5));
    }

    /** "An object is used for at most 512 calls after it has been made" */
    private static void theLastCall() {
        BallotDesk desk = Desks.twenty(7, Orders.ascending(7), Orders.descending(7), MOST);
        int made = 21;
        while (made < 511) {
            desk.amount(made % 20, MOST - made % 2);
            made++;
        }
        Check.due("the 512th call", desk.count(2), 20 * MOST - 10);
    }
}
