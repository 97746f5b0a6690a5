import java.util.NoSuchElementException;

/**
 * Promises 18 to 24, at the edges that the document names: sizes at both ends, types of 0 voters and of the
 * most, the first type and the twentieth, two candidates and seven, before and after something was found.
 */
public final class WhatIfEdgeTest {
    private static final Class<?> NO_ELEMENT = NoSuchElementException.class;
    private static final Class<?> BAD_ARGUMENT = IllegalArgumentException.class;
    private static final int MOST = Desks.MOST_VOTERS;
    private static final int NONE = BallotDesk.NONE;

    private WhatIfEdgeTest() {
    }

    public static void main(String[] args) {
        changeAtBothEndsOfSize();
        changeOfTypesWithoutVoters();
        changeByNumbersThatAreNone();
        changeToTheFirstPlaceAndToTheLastButOne();
        changeByTheLastOfAllOrders();
        changeByTheAgenda();
        changeOfTwoCandidates();
        changeThatFindsNone();
        changedBeforeAndAfter();
        changedIsTheLeastByPlaces();
        propertiesWithoutTypes();
        propertiesByNumber();
        bestAndWorstOfTwoAndOfSeven();
        raisingAtTheEdge();
        joiningAtTheEdge();
        leavingOfTwoThreeAndSeven();
        leavingTakesTheLastWeight();
        leavingKeepsTheOtherSettings();
        witnessBeforeAndAfter();
        witnessIsTheLeast();
        circleAtTheEnds();
        clonesAtTheEnds();
        clonesOfTypesWithVoters();
        countAtTheEnds();
        Check.end();
    }

    private static void changes(String when, BallotDesk desk, int rule, int type, int size, int answer, int order) {
        String call = when + ": change(" + rule + ", " + type + ", " + size + ")";
        Check.due(call, desk.change(rule, type, size), answer);
        Check.due("changed() after " + call, desk.changed(), order);
    }

    private static void keeps(String when, BallotDesk desk, int rule, int property, int breaker) {
        String call = when + ": property(" + rule + ", " + property + ")";
        Check.due(call, desk.property(rule, property), breaker == NONE);
        Check.due("witness() after " + call, desk.witness(), breaker);
    }

    /** By firsts 0 has the most, 1 has one, 2 the most: who wins is decided by one voter. */
    private static BallotDesk oneDecides() {
        BallotDesk desk = Desks.with(3, Check.order(0, 1, 2), MOST);
        desk.ballot(Check.order(1, 2, 0), 1);
        desk.ballot(Check.order(2, 1, 0), MOST);
        return desk;
    }

    /** "size is not 1 .. the type's amount" */
    private static void changeAtBothEndsOfSize() {
        BallotDesk desk = oneDecides();
        for (int types = 3; types <= 20; types++) {
            changes("all of them help 1", desk, 0, 2, MOST, 2, Check.order(1, 0, 2));
            changes("all but one make 1 as good as 0", desk, 0, 2, MOST - 1, 0, NONE);
            changes("one of them", desk, 0, 2, 1, 0, NONE);
            changes("the only one helps 2", desk, 0, 1, 1, 2, Check.order(2, 0, 1));
            Check.refused("none of them", BAD_ARGUMENT, () -> desk.change(0, 2, 0));
            Check.refused("one too many", BAD_ARGUMENT, () -> desk.change(0, 2, MOST + 1));
            Check.refused("one more than the only one", BAD_ARGUMENT, () -> desk.change(0, 1, 2));
            Check.due("the ballots stay", desk.count(2), 2 * MOST + 1);
            if (types < 20) {
                Check.due("one type more", desk.ballot(Check.order(2, 0, 1), 0), types);
            }
        }
    }

    private static void changeOfTypesWithoutVoters() {
        BallotDesk desk = oneDecides();
        int empty = desk.ballot(Check.order(2, 1, 0), 0);
        for (int size : new int[] {-1, 0, 1}) {
            Check.refused("of 0 voters: " + size, BAD_ARGUMENT, () -> desk.change(0, empty, size));
        }
        desk.amount(empty, 1);
        Check.refused("of 1 voter: 2", BAD_ARGUMENT, () -> desk.change(0, empty, 2));
        Check.due("2 is ahead by that one", desk.winner(0), 2);
        changes("their first one wins", desk, 0, empty, 1, 0, NONE);
    }

    private static void changeByNumbersThatAreNone() {
        BallotDesk none = Desks.of(7);
        Check.refused("no types", NO_ELEMENT, () -> none.change(0, 0, 1));
        Check.refused("no types, no size", NO_ELEMENT, () -> none.change(0, 0, 0));
        BallotDesk full = Desks.twenty(2, Check.order(0, 1), Check.order(1, 0), MOST);
        Check.due("type 19, rule 11", full.change(11, 19, MOST), 0);
        Check.refused("type 20", NO_ELEMENT, () -> full.change(11, 20, MOST));
        Check.refused("type -1", NO_ELEMENT, () -> full.change(0, -1, 1));
        Check.refused("rule 12", NO_ELEMENT, () -> full.change(12, 0, 1));
        Check.refused("rule -1", NO_ELEMENT, () -> full.change(-1, 0, 1));
        Check.refused("rule 12, no size", NO_ELEMENT, () -> full.change(12, 0, 0));
        Check.refused("type 20, no size", NO_ELEMENT, () -> full.change(0, 20, MOST + 1));
    }

    /** "if that is better than the winner's now, that place + 1" */
    private static void changeToTheFirstPlaceAndToTheLastButOne() {
        BallotDesk second = Desks.with(7, Orders.ascending(7), 2);
        second.ballot(Orders.descending(7), 5);
        second.ballot(Check.order(5, 6, 4, 3, 2, 1, 0), 4);
        changes("5 can win, 6 does", second, 0, 0, 2, 6, Check.order(5, 0, 1, 2, 3, 4, 6));
        BallotDesk first = Desks.with(7, Orders.ascending(7), MOST);
        onlyTheLastPlaceCounts(first, 7);
        changes("0 can win, 6 does", first, 2, 0, MOST, 1, Check.order(1, 2, 3, 4, 5, 6, 0));
        changes("more than half is enough", first, 2, 0, MOST / 2 + 1, 1, Check.order(1, 2, 3, 4, 5, 6, 0));
        changes("half is enough for 0, who is first in the tie order", first, 2, 0, MOST / 2, 1, Check.order(1, 2, 3, 4, 5, 6, 0));
        changes("one less is not", first, 2, 0, MOST / 2 - 1, 0, NONE);
    }

    private static void onlyTheLastPlaceCounts(BallotDesk desk, int n) {
        for (int place = 0; place < n; place++) {
            desk.weight(place, place == n - 1 ? 1000 : 0);
        }
    }

    /** Against 0, 1, 2, .. the last one has as many points as all others by the order .. 2, 1, 0, and by no other. */
    private static void changeByTheLastOfAllOrders() {
        for (int n = 3; n <= 7; n++) {
            BallotDesk desk = Desks.with(n, Orders.ascending(n), 1);
            desk.ballot(Orders.turned(n, n - 1), 1);
            desk.tieOrder(Orders.descending(n));
            Check.due("0 has the most points of " + n, desk.winner(2), 0);
            changes("only the last order of " + n, desk, 2, 1, 1, 1, Orders.descending(n));
        }
    }

    /** 0 beats 1 by 7 : 5, 1 beats 2 by 8 : 4, 2 beats 0 by 9 : 3. */
    private static void changeByTheAgenda() {
        BallotDesk desk = Desks.with(3, Check.order(0, 1, 2), 3);
        desk.ballot(Check.order(1, 2, 0), 5);
        desk.ballot(Check.order(2, 0, 1), 4);
        changes("two make 1 beat 0, and then 2", desk, 11, 0, 2, 2, Check.order(1, 0, 2));
        changes("one makes 1 as good as 0, who is first in the tie order", desk, 11, 0, 1, 0, NONE);
        desk.tieOrder(Check.order(1, 0, 2));
        changes("one is enough then", desk, 11, 0, 1, 2, Check.order(1, 0, 2));
        desk.agenda(Check.order(2, 1, 0));
        Check.due("1 beats 2, 0 beats 1", desk.winner(11), 0);
        changes("five make 2 beat 1, and then 0", desk, 11, 1, 5, 2, Check.order(2, 0, 1));
    }

    private static void changeOfTwoCandidates() {
        BallotDesk desk = Desks.with(2, Check.order(0, 1), 3);
        desk.ballot(Check.order(1, 0), 2);
        for (int rule = 0; rule < 12; rule++) {
            changes("of two", desk, rule, 1, 2, 0, NONE);
        }
        onlyTheLastPlaceCounts(desk, 2);
        Check.due("points for the last", desk.winner(2), 1);
        changes("of three, two stay", desk, 2, 0, 1, 1, Check.order(1, 0));
    }

    /** "(any order, also none other)", "0 if none is better" */
    private static void changeThatFindsNone() {
        for (int n : new int[] {2, 7}) {
            BallotDesk desk = Desks.twenty(n, Orders.ascending(n), Orders.descending(n), MOST);
            for (int rule : new int[] {0, 3, 4, 5, 6, 7, 8, 10, 11}) {
                Check.due("0 wins by " + rule, desk.winner(rule), 0);
                changes("whose first one wins", desk, rule, 0, MOST, 0, NONE);
            }
        }
    }

    /** "NONE if the latest change() found none, or before." */
    private static void changedBeforeAndAfter() {
        BallotDesk desk = oneDecides();
        Check.due("before", desk.changed(), NONE);
        Check.refused("a refused one", BAD_ARGUMENT, () -> desk.change(0, 2, MOST + 1));
        Check.due("before, after a refused one", desk.changed(), NONE);
        changes("one that finds one", desk, 0, 2, MOST, 2, Check.order(1, 0, 2));
        Check.refused("size 0", BAD_ARGUMENT, () -> desk.change(0, 2, 0));
        Check.refused("rule 12", NO_ELEMENT, () -> desk.change(12, 2, 1));
        Check.refused("type 3", NO_ELEMENT, () -> desk.change(0, 3, 1));
        Check.due("after refused ones", desk.changed(), Check.order(1, 0, 2));
        desk.property(0, 0);
        desk.drop(2);
        Check.due("after other calls", desk.changed(), Check.order(1, 0, 2));
        changes("one that finds none", desk, 0, 0, 1, 0, NONE);
    }

    /** "of these the least by its candidates at places 0, 1, 2, ..", which is not the least number */
    private static void changedIsTheLeastByPlaces() {
        BallotDesk desk = Desks.with(4, Check.order(0, 1, 2, 3), 3);
        desk.ballot(Check.order(1, 0, 2, 3), 2);
        desk.ballot(Check.order(2, 1, 3, 0), 2);
        changes("any order with 1 first", desk, 0, 2, 2, 2, Check.order(1, 0, 2, 3));
        BallotDesk last = Desks.with(4, Check.order(3, 2, 1, 0), 1);
        onlyTheLastPlaceCounts(last, 4);
        changes("any order with 3 last", last, 2, 0, 1, 1, Check.order(0, 1, 2, 3));
    }

    private static void propertiesWithoutTypes() {
        for (int n = 2; n <= 7; n++) {
            BallotDesk none = Desks.of(n);
            BallotDesk empty = Desks.twenty(n, Orders.ascending(n), Orders.turned(n, 1), 0);
            none.tieOrder(Orders.turned(n, 1));
            for (int rule = 0; rule < 12; rule++) {
                for (int property = 0; property < 5; property++) {
                    keeps("no types of " + n, none, rule, property, NONE);
                    keeps("no voters of " + n, empty, rule, property, NONE);
                }
            }
        }
    }

    private static void propertiesByNumber() {
        BallotDesk desk = Desks.with(2, Check.order(0, 1), 1);
        keeps("the first", desk, 0, 0, NONE);
        keeps("the last", desk, 11, 4, NONE);
        Check.refused("property -1", NO_ELEMENT, () -> desk.property(0, -1));
        Check.refused("property 5", NO_ELEMENT, () -> desk.property(0, 5));
        Check.refused("rule -1", NO_ELEMENT, () -> desk.property(-1, 0));
        Check.refused("rule 12", NO_ELEMENT, () -> desk.property(12, 0));
    }

    /** "one that beats all others is the only winner", "one that all others beat is no winner" */
    private static void bestAndWorstOfTwoAndOfSeven() {
        for (int n : new int[] {2, 7}) {
            BallotDesk desk = Desks.twenty(n, Orders.ascending(n), Orders.ascending(n), MOST);
            keeps("0 wins alone", desk, 2, 0, NONE);
            keeps("the last does not win", desk, 2, 1, NONE);
            for (int place = 0; place < n; place++) {
                desk.weight(place, 5);
            }
            keeps("0 wins, with all others", desk, 2, 0, 0);
            keeps("the last wins, with all others", desk, 2, 1, n - 1);
            onlyTheLastPlaceCounts(desk, n);
            keeps("0 does not win", desk, 2, 0, 0);
            keeps("the last wins alone", desk, 2, 1, n - 1);
            BallotDesk halves = Desks.twenty(n, Orders.ascending(n), Orders.descending(n), MOST);
            keeps("none beats all others", halves, 0, 0, NONE);
            keeps("none is beaten by all others", halves, 0, 1, NONE);
        }
    }

    /** Ten points for place 1 alone: one gains by what should harm. */
    private static BallotDesk placeOneCounts(int order, int amount) {
        BallotDesk desk = Desks.with(3, order, amount);
        desk.weight(0, 0);
        desk.weight(1, 10);
        return desk;
    }

    /** "all voters of any one type have w one place higher" */
    private static void raisingAtTheEdge() {
        BallotDesk desk = placeOneCounts(Check.order(1, 0, 2), 0);
        for (int type = 1; type < 20; type++) {
            desk.ballot(Check.order(1, 0, 2), 0);
        }
        keeps("none of twenty has voters", desk, 2, 2, NONE);
        desk.amount(19, MOST);
        keeps("the twentieth has", desk, 2, 2, 19);
        desk.amount(0, MOST);
        keeps("the first has as many, and 0 is first in the tie order", desk, 2, 2, NONE);
        desk.amount(0, MOST - 1);
        keeps("one less, but the twentieth is more than half", desk, 2, 2, 19);
        desk.amount(19, MOST - 2);
        keeps("the first is more than half", desk, 2, 2, 0);
        for (int by = 0; by < 7; by++) {
            BallotDesk top = Desks.with(7, Orders.turned(7, by), MOST);
            top.tieOrder(Orders.turned(7, by));
            for (int rule = 0; rule < 12; rule++) {
                keeps("w is at place 0 already", top, rule, 2, NONE);
            }
        }
        BallotDesk two = Desks.with(2, Check.order(1, 0), MOST);
        onlyTheLastPlaceCounts(two, 2);
        keeps("of two, from the last place to the first", two, 2, 2, 0);
    }

    /** "one voter more, of any type in which w is at place 0": also of one that has the most, or none. */
    private static void joiningAtTheEdge() {
        BallotDesk desk = placeOneCounts(Check.order(1, 0, 2), MOST);
        keeps("w is at place 0 of no type", desk, 2, 3, NONE);
        desk.ballot(Check.order(0, 1, 2), MOST);
        Check.due("both have as many", desk.winners(2), Check.set(0, 1));
        keeps("one voter more than the most", desk, 2, 3, 1);
        desk.amount(1, MOST - 1);
        keeps("one less: as many then", desk, 2, 3, NONE);
        BallotDesk full = placeOneCounts(Check.order(1, 0, 2), 1);
        for (int type = 1; type < 19; type++) {
            full.ballot(Check.order(1, 0, 2), 0);
        }
        full.tieOrder(Check.order(1, 0, 2));
        keeps("nineteen, w at place 0 of none", full, 2, 3, NONE);
        full.ballot(Check.order(0, 1, 2), 0);
        keeps("the twentieth, of 0 voters", full, 2, 3, 19);
        BallotDesk two = Desks.with(2, Check.order(0, 1), 1);
        onlyTheLastPlaceCounts(two, 2);
        two.ballot(Check.order(1, 0), 2);
        two.tieOrder(Check.order(1, 0));
        Check.due("of two, 0 has two points", two.winner(2), 0);
        keeps("one more for 1", two, 2, 3, 0);
    }

    /** "any one candidate that is no winner", "with two candidates nothing is tried" */
    private static void leavingOfTwoThreeAndSeven() {
        BallotDesk two = Desks.with(2, Check.order(0, 1), 1);
        onlyTheLastPlaceCounts(two, 2);
        for (int rule = 0; rule < 12; rule++) {
            keeps("two", two, rule, 4, NONE);
        }
        BallotDesk three = Desks.with(3, Check.order(0, 1, 2), 4);
        three.ballot(Check.order(1, 0, 2), 3);
        three.ballot(Check.order(2, 1, 0), 2);
        keeps("three: 1 takes the place of 2", three, 0, 4, 2);
        BallotDesk seven = Desks.with(7, Orders.ascending(7), 4);
        seven.ballot(Check.order(5, 0, 1, 2, 3, 4, 6), 3);
        seven.ballot(Check.order(6, 5, 0, 1, 2, 3, 4), 2);
        keeps("seven: without 6 it is 5", seven, 0, 4, 6);
        BallotDesk turned = Desks.with(7, Orders.descending(7), 4);
        turned.ballot(Check.order(1, 6, 5, 4, 3, 2, 0), 3);
        turned.ballot(Check.order(0, 1, 6, 5, 4, 3, 2), 2);
        keeps("seven: without 0 it is 1", turned, 0, 4, 0);
        turned.amount(1, 4);
        turned.tieOrder(Orders.descending(7));
        Check.due("1 is first of as many as 6", turned.winners(0), Check.set(1, 6));
        keeps("seven: 0 is still no winner", turned, 0, 4, 0);
        turned.amount(2, 4);
        keeps("seven: 0 is a winner too, and stands", turned, 0, 4, NONE);
    }

    /** "the last place's weight falls away" */
    private static void leavingTakesTheLastWeight() {
        for (int n = 3; n <= 7; n++) {
            BallotDesk desk = Desks.with(n, Orders.ascending(n), MOST);
            onlyTheLastPlaceCounts(desk, n);
            Check.due("the last of " + n, desk.winner(2), n - 1);
            keeps("no weight is left of " + n, desk, 2, 4, 0);
            desk.tieOrder(Orders.descending(n));
            keeps("nor is one needed of " + n, desk, 2, 4, NONE);
            Check.due("the weight itself stays", desk.weight(n - 1, 0), 1000);
        }
    }

    /** "the orders and settings without it": where all vote the same, who leaves behind the first harms it nowhere. */
    private static void leavingKeepsTheOtherSettings() {
        for (int n = 3; n <= 7; n++) {
            BallotDesk desk = Desks.with(n, Orders.descending(n), MOST);
            desk.agenda(Orders.turned(n, 1));
            for (int rule = 0; rule < 12; rule++) {
                if (rule != 1) {
                    keeps("the first of " + n, desk, rule, 4, NONE);
                }
            }
            Check.due("0 is last, and 1 is next in the tie order", desk.winner(1), 1);
            keeps("without 0, 1 is last of " + n, desk, 1, 4, 0);
            desk.tieOrder(Orders.descending(n));
            keeps("without 0, the first of " + n + " wins still", desk, 1, 4, NONE);
        }
    }

    /** "NONE if the latest one answered true, or before." */
    private static void witnessBeforeAndAfter() {
        BallotDesk desk = Desks.with(3, Check.order(0, 1, 2), 4);
        desk.ballot(Check.order(1, 2, 0), 3);
        desk.ballot(Check.order(2, 1, 0), 2);
        Check.due("before", desk.witness(), NONE);
        Check.refused("property 5", NO_ELEMENT, () -> desk.property(0, 5));
        Check.due("before, after a refused one", desk.witness(), NONE);
        keeps("1 beats all others", desk, 0, 0, 1);
        Check.refused("property -1", NO_ELEMENT, () -> desk.property(0, -1));
        Check.refused("rule 12", NO_ELEMENT, () -> desk.property(12, 0));
        Check.due("after refused ones", desk.witness(), 1);
        desk.change(0, 2, 2);
        desk.drop(1);
        Check.due("after other calls", desk.witness(), 1);
        keeps("one that is kept", desk, 0, 0, NONE);
    }

    /** "the least candidate (0, 1, 4), or type (2, 3)" */
    private static void witnessIsTheLeast() {
        BallotDesk types = placeOneCounts(Check.order(0, 2, 1), 0);
        types.ballot(Check.order(1, 0, 2), 5);
        types.ballot(Check.order(0, 1, 2), 5);
        types.ballot(Check.order(0, 1, 2), 0);
        keeps("types 2 and 3 break it, 0 does not", types, 2, 3, 2);
        BallotDesk raised = placeOneCounts(Check.order(0, 2, 1), 1);
        raised.ballot(Check.order(1, 0, 2), 3);
        raised.ballot(Check.order(1, 0, 2), 3);
        raised.ballot(Check.order(0, 1, 2), 1);
        keeps("types 1 and 2 break it, 0 and 3 do not", raised, 2, 2, 1);
        BallotDesk candidates = Desks.with(7, Orders.ascending(7), 1);
        onlyTheLastPlaceCounts(candidates, 7);
        keeps("every one that leaves breaks it", candidates, 2, 4, 0);
    }

    /** "the least a, of these the least b, of these the least c", "NONE if there is none", "k is not 0 .. 2" */
    private static void circleAtTheEnds() {
        circleIs("no types", Desks.of(7), NONE, NONE, NONE);
        circleIs("two", Desks.with(2, Check.order(1, 0), 1), NONE, NONE, NONE);
        circleIs("a line", Desks.with(7, Orders.ascending(7), MOST), NONE, NONE, NONE);
        circleIs("three", Desks.turning(3, MOST), 0, 1, 2);
        circleIs("seven", Desks.turning(7, MOST), 0, 1, 4);
        circleIs("the last three", lastThree(4, 5, 6), 4, 5, 6);
        circleIs("the last three, the other way", lastThree(6, 5, 4), 4, 6, 5);
        BallotDesk even = Desks.turning(3, MOST);
        for (int type = 0; type < 3; type++) {
            even.ballot(Check.order((type + 2) % 3, (type + 1) % 3, type), MOST);
        }
        circleIs("none beats", even, NONE, NONE, NONE);
        even.amount(5, MOST - 1);
        circleIs("2 beats both others, 0 beats 1", even, NONE, NONE, NONE);
    }

    private static BallotDesk lastThree(int a, int b, int c) {
        BallotDesk desk = Desks.with(7, Check.order(0, 1, 2, 3, a, b, c), 1);
        desk.ballot(Check.order(0, 1, 2, 3, b, c, a), 1);
        desk.ballot(Check.order(0, 1, 2, 3, c, a, b), 1);
        return desk;
    }

    private static void circleIs(String when, BallotDesk desk, int a, int b, int c) {
        Check.due(when + ": circle(0)", desk.circle(0), a);
        Check.due(when + ": circle(1)", desk.circle(1), b);
        Check.due(when + ": circle(2)", desk.circle(2), c);
        Check.refused(when + ": circle(-1)", NO_ELEMENT, () -> desk.circle(-1));
        Check.refused(when + ": circle(3)", NO_ELEMENT, () -> desk.circle(3));
    }

    /** "it has fewer than two candidates, or some that are none" */
    private static void clonesAtTheEnds() {
        for (int n = 2; n <= 7; n++) {
            BallotDesk none = Desks.of(n);
            for (int set = 0; set < 2 << n; set++) {
                int asked = set;
                if (set > Desks.everyone(n) || Integer.bitCount(set) < 2) {
                    Check.refused("clones(" + set + ") of " + n, BAD_ARGUMENT, () -> none.clones(asked));
                } else {
                    Check.due("no types: clones(" + set + ") of " + n, none.clones(set), true);
                }
            }
            Check.refused("every bit", BAD_ARGUMENT, () -> none.clones(-1));
            Check.refused("the highest bit too", BAD_ARGUMENT, () -> none.clones(3 | 1 << 31));
            BallotDesk full = Desks.twenty(n, Orders.ascending(n), Orders.descending(n), MOST);
            Check.due("all of " + n, full.clones(Desks.everyone(n)), true);
            Check.due("the last two of " + n, full.clones(3 << (n - 2)), true);
            Check.due("the first and the last of " + n, full.clones(1 | 1 << (n - 1)), n == 2);
            if (n > 2) {
                Check.due("all but 1 of " + n, full.clones(Desks.everyone(n) - Check.set(1)), false);
                Check.due("all but 0 of " + n, full.clones(Desks.everyone(n) - Check.set(0)), true);
            }
        }
    }

    /** "on all ballots of types with voters" */
    private static void clonesOfTypesWithVoters() {
        BallotDesk desk = Desks.twenty(3, Check.order(0, 1, 2), Check.order(1, 0, 2), MOST);
        Check.due("together on twenty", desk.clones(Check.set(0, 1)), true);
        desk.drop(19);
        desk.ballot(Check.order(0, 2, 1), 0);
        Check.due("apart on the twentieth, which has no voters", desk.clones(Check.set(0, 1)), true);
        desk.amount(19, 1);
        Check.due("which has one", desk.clones(Check.set(0, 1)), false);
        desk.amount(19, 0);
        Check.due("which has none again", desk.clones(Check.set(0, 1)), true);
        desk.drop(0);
        desk.ballot(Check.order(0, 2, 1), 1);
        Check.due("apart on another", desk.clones(Check.set(0, 1)), false);
        Check.due("together on no others", desk.clones(Check.set(1, 2)), false);
    }

    /** "0 candidates, 1 types, 2 voters. IllegalArgumentException: none of these." */
    private static void countAtTheEnds() {
        for (int n : new int[] {2, 7}) {
            BallotDesk full = Desks.twenty(n, Orders.ascending(n), Orders.descending(n), MOST);
            Check.due("candidates", full.count(0), n);
            Check.due("types", full.count(1), 20);
            Check.due("voters", full.count(2), 20 * MOST);
            Check.refused("count(-1)", BAD_ARGUMENT, () -> full.count(-1));
            Check.refused("count(3)", BAD_ARGUMENT, () -> full.count(3));
            BallotDesk none = Desks.of(n);
            Check.due("no types", none.count(1), 0);
            Check.due("no voters", none.count(2), 0);
        }
    }
}
