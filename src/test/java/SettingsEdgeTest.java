import java.util.NoSuchElementException;

/**
 * Promises 1 to 8, at the edges that the document names: the last that is allowed and the first that is not,
 * no types and twenty, two candidates and seven. What refused calls leave as it was is in RefusalTest.
 */
public final class SettingsEdgeTest {
    private static final Class<?> NO_ELEMENT = NoSuchElementException.class;
    private static final Class<?> BAD_ARGUMENT = IllegalArgumentException.class;
    private static final Class<?> BAD_STATE = IllegalStateException.class;
    private static final int MOST = Desks.MOST_VOTERS;
    private static final int[] FEWEST_AND_MOST = {2, 7};

    private SettingsEdgeTest() {
    }

    public static void main(String[] args) {
        newObject();
        candidatesFromTwoToSeven();
        candidatesOfTheSameNumber();
        everyNumberAsAnOrder();
        ordersOfEverySize();
        ballotsUpToTwenty();
        equalOrdersAreTwoTypes();
        amountsAtBothEnds();
        typesWithoutVotersStay();
        dropAtBothEnds();
        dropDownToNone();
        dropLeavesNothingBehind();
        candidatesLeaveNothingBehind();
        tieOrderAndAgendaAtBothEnds();
        weightsAtBothEnds();
        Check.end();
    }

    /** "Four candidates, no types." */
    private static void newObject() {
        BallotDesk desk = new BallotDesk();
        Check.due("new: candidates", desk.count(0), 4);
        Check.due("new: types", desk.count(1), 0);
        Check.due("new: voters", desk.count(2), 0);
        Check.due("new: 3 is a candidate", desk.pair(3, 0), 0);
        Check.refused("new: 4 is none", NO_ELEMENT, () -> desk.pair(4, 0));
        Check.refused("new: no type 0 to drop", NO_ELEMENT, () -> desk.drop(0));
        Check.refused("new: no type 0 of an amount", NO_ELEMENT, () -> desk.amount(0, 0));
        Check.refused("new: no type 0 to change", NO_ELEMENT, () -> desk.change(0, 0, 1));
        Check.due("new: the first type is 0", desk.ballot(Orders.ascending(4), 1), 0);
    }

    /** "how many candidates there were", "n is not 2 .. 7" */
    private static void candidatesFromTwoToSeven() {
        BallotDesk desk = new BallotDesk();
        int before = 4;
        for (int n : new int[] {2, 7, 3, 6, 2, 5, 4, 7}) {
            Check.refused("candidates(1)", BAD_ARGUMENT, () -> desk.candidates(1));
            Check.refused("candidates(8)", BAD_ARGUMENT, () -> desk.candidates(8));
            Check.due("candidates(" + n + ")", desk.candidates(n), before);
            Check.due("so many", desk.count(0), n);
            isAsAtFirst(desk, n);
            changeSettings(desk, n);
            Check.due("the first type of " + n, desk.ballot(Orders.descending(n), MOST), 0);
            Check.due("the second type of " + n, desk.ballot(Orders.turned(n, 1), 5), 1);
            before = n;
        }
    }

    /** "all types go, settings are as at first", also where there were as many candidates before. */
    private static void candidatesOfTheSameNumber() {
        BallotDesk desk = Desks.twenty(7, Orders.ascending(7), Orders.descending(7), MOST);
        changeSettings(desk, 7);
        Check.due("candidates(7) of 7", desk.candidates(7), 7);
        isAsAtFirst(desk, 7);
        for (int type = 0; type < 20; type++) {
            Check.due("twenty again", desk.ballot(Orders.turned(7, type % 7), 1), type);
        }
        Check.due("all are there", desk.count(2), 20);
    }

    private static void isAsAtFirst(BallotDesk desk, int n) {
        Check.due("no types of " + n, desk.count(1), 0);
        Check.due("no voters of " + n, desk.count(2), 0);
        Check.due("tie order of " + n + " at first", desk.tieOrder(Orders.ascending(n)), Orders.ascending(n));
        Check.due("agenda of " + n + " at first", desk.agenda(Orders.ascending(n)), Orders.ascending(n));
        for (int place = 0; place < n; place++) {
            Check.due("weight of " + place + " of " + n + " at first", desk.weight(place, 0), n - 1 - place);
        }
        for (int candidate = 0; candidate < n; candidate++) {
            int next = (candidate + 1) % n;
            Check.due("none has " + candidate + " of " + n + " ahead", desk.pair(candidate, next), 0);
            Check.due("none has " + candidate + " of " + n + " first", desk.score(0, candidate), 0);
            Check.due("none has " + candidate + " of " + n + " last", desk.score(1, candidate), 0);
        }
    }

    private static void changeSettings(BallotDesk desk, int n) {
        desk.tieOrder(Orders.descending(n));
        desk.agenda(Orders.turned(n, 1));
        desk.weight(0, 1000);
        desk.weight(n - 1, 999);
    }

    /** "An ORDER of them is told by a number": a new object for every 500 numbers, as it may be asked no more. */
    private static void everyNumberAsAnOrder() {
        for (int n = 2; n <= 5; n++) {
            BallotDesk desk = Desks.of(n);
            int taken = 0;
            for (int number = 0; number < 2 << (3 * n); number++) {
                if (number % 500 == 0) {
                    desk = Desks.of(n);
                }
                boolean isTaken = takes(desk, number);
                taken += isTaken ? 1 : 0;
                Check.due(number + " as an order of " + n, isTaken, Orders.isOne(number, n));
            }
            Check.due("orders of " + n, taken, factorial(n));
        }
    }

    /** "nothing above" */
    private static void ordersOfEverySize() {
        for (int n = 2; n <= 7; n++) {
            for (int by = 0; by < n; by++) {
                Check.due("an order of " + n, takes(Desks.of(n), Orders.turned(n, by)), true);
            }
            Check.due("the last one of " + n, takes(Desks.of(n), Orders.descending(n)), true);
            for (int wrong : Orders.wrong(n)) {
                Check.due(wrong + " of " + n, takes(Desks.of(n), wrong), false);
            }
        }
    }

    private static boolean takes(BallotDesk desk, int number) {
        try {
            desk.tieOrder(number);
            return true;
        } catch (IllegalArgumentException e) {
            return false;
        }
    }

    private static int factorial(int n) {
        return n < 2 ? 1 : n * factorial(n - 1);
    }

    /** "A type behind the others: its number", "amount not 0 .. 100000", "there are 20" */
    private static void ballotsUpToTwenty() {
        for (int n : FEWEST_AND_MOST) {
            BallotDesk desk = Desks.of(n);
            int order = Orders.descending(n);
            for (int type = 0; type < 20; type++) {
                Check.due("ballot " + type + " of " + n, desk.ballot(order, type % 2 * MOST), type);
                Check.due("types of " + n, desk.count(1), type + 1);
            }
            Check.refused("the 21st", BAD_STATE, () -> desk.ballot(order, 0));
            Check.refused("the 21st, too many", BAD_ARGUMENT, () -> desk.ballot(order, MOST + 1));
            Check.refused("the 21st, too few", BAD_ARGUMENT, () -> desk.ballot(order, -1));
            Check.refused("the 21st, no order", BAD_ARGUMENT, () -> desk.ballot(0, 1));
            Check.due("still twenty", desk.count(1), 20);
            Check.due("with their voters", desk.count(2), 10 * MOST);
            Check.due("the last is there", desk.amount(19, 7), MOST);
            Check.due("the first goes", desk.drop(0), 19);
            Check.due("there is room for one", desk.ballot(order, MOST), 19);
            Check.refused("and no more", BAD_STATE, () -> desk.ballot(order, 1));
        }
    }

    private static void equalOrdersAreTwoTypes() {
        BallotDesk desk = Desks.of(3);
        Check.due("one", desk.ballot(Check.order(1, 0, 2), 2), 0);
        Check.due("the same again", desk.ballot(Check.order(1, 0, 2), 3), 1);
        Check.due("both count", desk.score(0, 1), 5);
        Check.due("each has its own amount", desk.amount(0, 2), 2);
    }

    /** "A type's amount becomes this: what it was.", "it is not 0 .. 100000" */
    private static void amountsAtBothEnds() {
        BallotDesk desk = Desks.twenty(3, Check.order(0, 1, 2), Check.order(2, 1, 0), 1);
        for (int type : new int[] {0, 19}) {
            int first = type == 0 ? 0 : 2;
            Check.due("to 0", desk.amount(type, 0), 1);
            Check.due("nine firsts", desk.score(0, first), 9);
            Check.refused("below 0", BAD_ARGUMENT, () -> desk.amount(type, -1));
            Check.due("to the most", desk.amount(type, MOST), 0);
            Check.due("so many firsts", desk.score(0, first), 9 + MOST);
            Check.refused("above the most", BAD_ARGUMENT, () -> desk.amount(type, MOST + 1));
            Check.due("to the same", desk.amount(type, MOST), MOST);
            Check.due("no more firsts", desk.score(0, first), 9 + MOST);
            Check.due("back", desk.amount(type, 1), MOST);
        }
        Check.refused("no type -1", NO_ELEMENT, () -> desk.amount(-1, 1));
        Check.refused("no type 20", NO_ELEMENT, () -> desk.amount(20, 1));
        Check.refused("no type 20, nor such an amount", NO_ELEMENT, () -> desk.amount(20, MOST + 1));
        Check.due("all are as they were", desk.count(2), 20);
    }

    private static void typesWithoutVotersStay() {
        BallotDesk desk = Desks.with(3, Check.order(0, 1, 2), 4);
        desk.ballot(Check.order(2, 1, 0), 0);
        Check.due("a type of 0 voters is one", desk.count(1), 2);
        desk.amount(0, 0);
        Check.due("so is one that lost them", desk.count(1), 2);
        Check.due("none votes", desk.count(2), 0);
        Check.due("all win", desk.winners(0), 7);
        Check.due("its number stays", desk.amount(1, 3), 0);
        Check.due("its order too", desk.winners(0), Check.set(2));
    }

    /** "A type goes, those behind it have one number less: how many there are." */
    private static void dropAtBothEnds() {
        BallotDesk desk = Desks.of(7);
        for (int type = 0; type < 20; type++) {
            desk.ballot(Orders.turned(7, type % 7), 100 + type);
        }
        Check.refused("drop(-1)", NO_ELEMENT, () -> desk.drop(-1));
        Check.refused("drop(20)", NO_ELEMENT, () -> desk.drop(20));
        Check.due("the last of 20", desk.drop(19), 19);
        Check.refused("it is gone", NO_ELEMENT, () -> desk.drop(19));
        Check.due("the others keep their numbers", desk.amount(18, 118), 118);
        Check.due("the first of 19", desk.drop(0), 18);
        Check.due("one in the midst", desk.drop(8), 17);
        for (int type = 0; type < 17; type++) {
            Check.due("amount of " + type, desk.amount(type, 0), 100 + numberBefore(type));
        }
        Check.due("none votes", desk.pair(0, 1) + desk.pair(1, 0), 0);
        for (int type = 0; type < 17; type++) {
            desk.amount(type, 1);
            Check.due("order of " + type, desk.agreed(), Orders.turned(7, numberBefore(type) % 7));
            desk.amount(type, 0);
        }
    }

    /** When 19, then 0, and then the eighth of the others had gone. */
    private static int numberBefore(int type) {
        return type < 8 ? type + 1 : type + 2;
    }

    private static void dropDownToNone() {
        BallotDesk desk = Desks.twenty(2, Check.order(0, 1), Check.order(1, 0), MOST);
        for (int left = 19; left >= 0; left--) {
            Check.due("down to none", desk.drop(left % 2 == 0 ? 0 : left), left);
        }
        Check.refused("no more", NO_ELEMENT, () -> desk.drop(0));
        Check.due("no types", desk.count(1), 0);
        Check.due("none votes", desk.pair(0, 1) + desk.pair(1, 0), 0);
        Check.due("and one again", desk.ballot(Check.order(1, 0), 1), 0);
    }

    /** All answers are those of a desk that never had the type: its row is used no more. */
    private static void dropLeavesNothingBehind() {
        for (int n : new int[] {2, 3, 7}) {
            for (int at = 0; at <= 2; at++) {
                BallotDesk desk = Desks.of(n);
                for (int type = 0; type <= 2; type++) {
                    desk.ballot(type == at ? Orders.descending(n) : Orders.turned(n, 1), type == at ? MOST : 3);
                }
                desk.drop(at);
                BallotDesk never = Desks.of(n);
                never.ballot(Orders.turned(n, 1), 3);
                never.ballot(Orders.turned(n, 1), 3);
                Answers.same("a type " + at + " that came and went", Answers.of(never), Answers.of(desk));
            }
            BallotDesk last = Desks.with(n, Orders.turned(n, n - 1), MOST);
            last.drop(0);
            Answers.same("the only type, when it went,", Answers.of(Desks.of(n)), Answers.of(last));
        }
    }

    /** All answers are those of a new desk, whatever there was before. */
    private static void candidatesLeaveNothingBehind() {
        for (int n = 2; n <= 7; n++) {
            BallotDesk desk = Desks.twenty(7, Orders.descending(7), Orders.turned(7, 2), MOST);
            changeSettings(desk, 7);
            desk.candidates(n);
            Answers.same("what was before candidates(" + n + ")", Answers.of(Desks.of(n)), Answers.of(desk));
        }
        BallotDesk desk = Desks.twenty(2, Orders.descending(2), Orders.descending(2), MOST);
        changeSettings(desk, 2);
        desk.candidates(4);
        Answers.same("what was before candidates(4)", Answers.of(new BallotDesk()), Answers.of(desk));
    }

    /** "The tie order becomes this: what it was.", "The agenda becomes this: what it was.", "order is none" */
    private static void tieOrderAndAgendaAtBothEnds() {
        for (int n : FEWEST_AND_MOST) {
            BallotDesk desk = Desks.of(n);
            int up = Orders.ascending(n);
            int down = Orders.descending(n);
            Check.due("tie order of " + n, desk.tieOrder(down), up);
            Check.due("the agenda stays", desk.agenda(up), up);
            Check.due("the first of it wins", desk.winner(0), n - 1);
            Check.due("the same again", desk.tieOrder(down), down);
            Check.due("agenda of " + n, desk.agenda(down), up);
            Check.due("the same again", desk.agenda(down), down);
            Check.due("the tie order stays", desk.tieOrder(up), down);
            Check.refused("one too many", BAD_ARGUMENT, () -> desk.tieOrder(Check.order(0, 1, 2, 3, 4, 5, 6, 7)));
            Check.refused("one too few", BAD_ARGUMENT, () -> desk.agenda(Orders.ascending(n - 1)));
            Check.due("refused ones leave the tie order", desk.tieOrder(up), up);
            Check.due("and the agenda", desk.agenda(up), down);
        }
    }

    /** "A place's weight becomes this: what it was.", "it is not 0 .. 1000" */
    private static void weightsAtBothEnds() {
        for (int n : FEWEST_AND_MOST) {
            BallotDesk desk = Desks.with(n, Orders.ascending(n), 1);
            for (int place : new int[] {0, n - 1}) {
                Check.due("to 0", desk.weight(place, 0), n - 1 - place);
                Check.due("no points", desk.score(2, place), 0);
                Check.refused("below 0", BAD_ARGUMENT, () -> desk.weight(place, -1));
                Check.due("to 1000", desk.weight(place, 1000), 0);
                Check.due("so many points", desk.score(2, place), 1000);
                Check.refused("above 1000", BAD_ARGUMENT, () -> desk.weight(place, 1001));
                Check.due("refused ones leave it", desk.weight(place, 1000), 1000);
            }
            Check.refused("no place -1", NO_ELEMENT, () -> desk.weight(-1, 1));
            Check.refused("no place " + n, NO_ELEMENT, () -> desk.weight(n, 1));
            Check.refused("no place " + n + ", nor such a weight", NO_ELEMENT, () -> desk.weight(n, 1001));
        }
    }
}
