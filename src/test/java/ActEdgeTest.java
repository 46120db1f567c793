/** ASKED, DAYS, SOLD, the row of ACTS and the promises 6 to 11 at their limits. */
final class ActEdgeTest {
    private static final int UNKNOWN = -1, OUTSIDE = -2, STATE = -3, NONE = -9;
    // Truly early, ends on day 3; truly late, ends on day 5.
    private static final String TWO = "CT35540T25571A01";
    // Truly late, ends on day 9.
    private static final String LAST = "CT89191A00";

    private final Check check = new Check("ActEdgeTest");

    public static void main(String[] args) {
        ActEdgeTest test = new ActEdgeTest();
        test.thingsThereAre();
        test.dayOnWhichItWasSold();
        test.ifItHasEnded();
        test.endIfEndedOrAsked();
        test.askersThereAre();
        test.ofWhichItAsked();
        test.askersBesideHear();
        test.heardIsNotSeen();
        test.mayAskOfThingsMToN();
        test.askedOnce();
        test.askedOfWhatAnotherAsked();
        test.askedOfWhatIsEndedOrSold();
        test.coinIfEndIsLater();
        test.soldGivesNoCoin();
        test.atMostNineDays();
        test.soldForCoinsIfEndIsLater();
        test.soldOnce();
        test.atMost16Acts();
        test.firstIsForgottenOfEachKind();
        test.refusedIsNoAct();
        test.undoneOneByOne();
        test.undoneAskedByAnotherToo();
        test.undoneDayAtTheLast();
        test.check.end();
    }

    private void due(String call, long got, long want) {
        check.due(call, got, want);
    }

    private static void days(ClockOnce x, int n) {
        for (int i = 0; i < n; i++) {
            x.day();
        }
    }

    private static String things(int n) {
        return "C" + "T35540".repeat(n);
    }

    private void thingsThereAre() {
        for (int n = 0; n <= 4; n++) {
            ClockOnce x = Check.townOf(things(n));
            for (int thing = 0; thing < n; thing++) {
                due("thing(" + thing + ", 0) of " + n, x.thing(thing, 0), 3);
                due("thing(" + thing + ", 6) of " + n, x.thing(thing, 6), NONE);
                due("thing(" + thing + ", 7) of " + n, x.thing(thing, 7), OUTSIDE);
                due("thing(" + thing + ", -1) of " + n, x.thing(thing, -1), OUTSIDE);
            }
            due("thing(" + n + ", 0) of " + n, x.thing(n, 0), UNKNOWN);
            due("sell(" + n + ") of " + n, x.sell(n), UNKNOWN);
        }
    }

    private void dayOnWhichItWasSold() {
        ClockOnce x = Check.townOf(TWO);
        due("not sold: thing(0, 4)", x.thing(0, 4), NONE);
        x.sell(0);
        due("sold on day 0: thing(0, 4)", x.thing(0, 4), 0);
        due("sold another one: thing(1, 4)", x.thing(1, 4), NONE);
        days(x, 9);
        x.sell(1);
        due("sold on day 9: thing(1, 4)", x.thing(1, 4), 9);
        due("days later: thing(0, 4)", x.thing(0, 4), 0);
        x.undo();
        due("undone: thing(1, 4)", x.thing(1, 4), NONE);
    }

    private void ifItHasEnded() {
        ClockOnce x = Check.townOf(TWO);
        int[] first = {0, 0, 0, 1, 1, 1, 1, 1, 1, 1};
        int[] second = {0, 0, 0, 0, 0, 1, 1, 1, 1, 1};
        for (int day = 0; day <= 9; day++) {
            due("on day " + day + " thing(0, 5)", x.thing(0, 5), first[day]);
            due("on day " + day + " thing(1, 5)", x.thing(1, 5), second[day]);
            due("on day " + day + " count(7)", x.count(7), first[day] + 2 * second[day]);
            x.day();
        }
        ClockOnce last = Check.townOf(LAST);
        days(last, 8);
        due("on day 8 thing(0, 5)", last.thing(0, 5), 0);
        last.day();
        due("on day 9 thing(0, 5)", last.thing(0, 5), 1);
        last.undo();
        due("undone thing(0, 5)", last.thing(0, 5), 0);
    }

    private void endIfEndedOrAsked() {
        ClockOnce x = Check.townOf(TWO);
        days(x, 2);
        due("a day ahead of its end: thing(0, 6)", x.thing(0, 6), NONE);
        x.day();
        due("on its end: thing(0, 6)", x.thing(0, 6), 3);
        due("past its early day: thing(1, 6)", x.thing(1, 6), NONE);
        x.ask(0, 1);
        due("asked: thing(1, 6)", x.thing(1, 6), 5);
        x.undo();
        due("asked, undone: thing(1, 6)", x.thing(1, 6), NONE);
        x.sell(1);
        due("sold: thing(1, 6)", x.thing(1, 6), NONE);
        days(x, 2);
        due("sold and ended: thing(1, 6)", x.thing(1, 6), 5);
    }

    private void askersThereAre() {
        for (int n = 0; n <= 4; n++) {
            ClockOnce x = Check.townOf(things(1) + "A00".repeat(n));
            for (int asker = 0; asker < n; asker++) {
                due("asker(" + asker + ", 3) of " + n, x.asker(asker, 3), 0);
                due("asker(" + asker + ", 4) of " + n, x.asker(asker, 4), OUTSIDE);
                due("asker(" + asker + ", -1) of " + n, x.asker(asker, -1), OUTSIDE);
            }
            due("asker(" + n + ", 0) of " + n, x.asker(n, 0), UNKNOWN);
            due("ask(" + n + ", 0) of " + n, x.ask(n, 0), UNKNOWN);
            due("holds(" + n + ") of " + n, x.holds(n), UNKNOWN);
        }
    }

    private void ofWhichItAsked() {
        ClockOnce x = Check.townOf(things(2) + "A01A01");
        due("not asked: asker(0, 2)", x.asker(0, 2), NONE);
        due("nothing asked: count(8)", x.count(8), 0);
        x.ask(0, 0);
        due("asked of 0: asker(0, 2)", x.asker(0, 2), 0);
        due("heard, but not asked: asker(1, 2)", x.asker(1, 2), NONE);
        due("asked of 0: count(8)", x.count(8), 1);
        x.undo();
        due("undone: asker(0, 2)", x.asker(0, 2), NONE);
        due("undone: count(8)", x.count(8), 0);
    }

    private void askersBesideHear() {
        for (int asker = 0; asker < 4; asker++) {
            ClockOnce x = Check.townOf(things(4) + "A03A03A03A03");
            x.ask(asker, 2);
            for (int other = 0; other < 4; other++) {
                boolean isBeside = Math.abs(asker - other) <= 1;
                String who = "1 less, 1 more: of " + asker + " hears ";
                due(who + "asker(" + other + ", 3)", x.asker(other, 3), isBeside ? 4 : 0);
                due(who + "holds(" + other + ")", x.holds(other), isBeside ? 8 : 16);
            }
        }
        ClockOnce all = Check.townOf(things(4) + "A03A03A03A03");
        for (int asker = 0; asker < 4; asker++) {
            all.ask(asker, asker);
        }
        int[] heard = {3, 7, 14, 12};
        for (int asker = 0; asker < 4; asker++) {
            due("all asked: asker(" + asker + ", 3)", all.asker(asker, 3), heard[asker]);
        }
    }

    private void heardIsNotSeen() {
        ClockOnce x = Check.townOf(TWO);
        days(x, 9);
        due("ended, but not heard: asker(0, 3)", x.asker(0, 3), 0);
        due("ended, but not asked: count(8)", x.count(8), 0);
    }

    private void mayAskOfThingsMToN() {
        for (int m = 0; m < 4; m++) {
            for (int n = m; n < 4; n++) {
                for (int thing = 0; thing < 4; thing++) {
                    ClockOnce x = Check.townOf(things(4) + "A" + m + n);
                    boolean may = thing >= m && thing <= n;
                    due("may ask of " + m + " to " + n + ": ask(0, " + thing + ")", x.ask(0, thing), may ? 3 : OUTSIDE);
                }
            }
        }
    }

    private void askedOnce() {
        ClockOnce x = Check.townOf(things(2) + "A01A11");
        due("ask(0, 0)", x.ask(0, 0), 3);
        due("of the same again: ask(0, 0)", x.ask(0, 0), STATE);
        due("of another one: ask(0, 1)", x.ask(0, 1), STATE);
        due("heard, but did not ask yet: ask(1, 1)", x.ask(1, 1), 3);
        x.undo();
        x.undo();
        due("undone: ask(0, 1)", x.ask(0, 1), 3);
    }

    private void askedOfWhatAnotherAsked() {
        ClockOnce x = Check.townOf(things(1) + "A00A00A00A00");
        for (int asker = 0; asker < 4; asker++) {
            due("all of one: ask(" + asker + ", 0)", x.ask(asker, 0), 3);
        }
        due("all of one: count(8)", x.count(8), 1);
        due("all of one: count(9)", x.count(9), 4);
    }

    private void askedOfWhatIsEndedOrSold() {
        ClockOnce x = Check.townOf(TWO + "A01");
        x.sell(0);
        due("of what is sold: ask(0, 0)", x.ask(0, 0), 3);
        days(x, 9);
        due("of what has ended, on day 9: ask(1, 1)", x.ask(1, 1), 5);
    }

    private void coinIfEndIsLater() {
        // The first gives a coin on days 0, 1, 2, the second on days 0 to 4.
        ClockOnce x = Check.townOf(TWO);
        int[] gains = {2, 2, 2, 1, 1, 0, 0, 0, 0};
        for (int day = 0; day < 9; day++) {
            due("end later than day " + day + ": day()", x.day(), gains[day]);
        }
        due("all coins", x.count(5), 8);
        ClockOnce last = Check.townOf(LAST);
        for (int day = 0; day < 9; day++) {
            due("to its end on day 9: day() " + day, last.day(), 1);
        }
        ClockOnce soon = Check.townOf("CT12190");
        due("to its end on day 1: day()", soon.day(), 1);
        due("on its end: day()", soon.day(), 0);
        ClockOnce four = Check.townOf(things(4));
        due("of four: day()", four.day(), 4);
    }

    private void soldGivesNoCoin() {
        ClockOnce x = Check.townOf(TWO);
        x.sell(1);
        due("one sold: day()", x.day(), 1);
        x.sell(0);
        due("both sold: day()", x.day(), 0);
        due("both sold: count(5)", x.count(5), 7 + 1 + 4);
    }

    private void atMostNineDays() {
        ClockOnce x = new ClockOnce();
        for (int day = 1; day <= 9; day++) {
            due("day()", x.day(), 0);
            due("count(4)", x.count(4), day);
        }
        due("THE DAY is 9: day()", x.day(), STATE);
        due("THE DAY is 9: count(4)", x.count(4), 9);
        x.undo();
        due("undone: day()", x.day(), 0);
        due("undone: count(4)", x.count(4), 9);
    }

    private void soldForCoinsIfEndIsLater() {
        for (int day = 0; day <= 9; day++) {
            ClockOnce x = Check.townOf(TWO);
            days(x, day);
            due("ends on 3, sold on " + day, x.sell(0), day < 3 ? 4 : 0);
            due("ends on 5, sold on " + day, x.sell(1), day < 5 ? 7 : 0);
            due("sold on " + day + ": count(6)", x.count(6), 3);
        }
        ClockOnce last = Check.townOf(LAST);
        days(last, 8);
        due("ends on 9, sold on 8", last.sell(0), 9);
        last.undo();
        last.day();
        due("ends on 9, sold on 9", last.sell(0), 0);
    }

    private void soldOnce() {
        ClockOnce x = Check.townOf(TWO);
        days(x, 3);
        due("for none: sell(0)", x.sell(0), 0);
        due("sold for none: sell(0)", x.sell(0), STATE);
        due("for coins: sell(1)", x.sell(1), 7);
        due("sold for coins: sell(1)", x.sell(1), STATE);
        x.undo();
        due("undone: sell(1)", x.sell(1), 7);
    }

    private void atMost16Acts() {
        ClockOnce x = Check.townOf(States.FOUR);
        for (int one = 0; one < 4; one++) {
            x.ask(one, one);
            x.sell(one);
        }
        for (int acts = 9; acts <= 16; acts++) {
            x.day();
            due("16 at most: count(9)", x.count(9), acts);
        }
        x.day();
        due("of more the first one is forgotten: count(9)", x.count(9), 16);
        for (int left = 15; left >= 0; left--) {
            due("how many are left: undo()", x.undo(), left);
        }
        due("there is none: undo()", x.undo(), STATE);
        due("the first stays done: asker(0, 2)", x.asker(0, 2), 0);
        due("the second is undone: thing(0, 4)", x.thing(0, 4), NONE);
        due("days are undone: count(4)", x.count(4), 0);
    }

    private void firstIsForgottenOfEachKind() {
        ClockOnce sold = Check.townOf(States.FOUR);
        sold.sell(3);
        fillRow(sold, 0);
        due("a sale is forgotten: undo()", sold.undo(), STATE);
        due("a sale is forgotten: count(6)", sold.count(6), 8);
        due("a sale is forgotten: count(5)", sold.count(5), 1);
        ClockOnce day = Check.townOf(States.FOUR);
        day.day();
        day.sell(3);
        fillRow(day, 1);
        due("a day is forgotten: undo()", day.undo(), STATE);
        due("a day is forgotten: count(4)", day.count(4), 1);
        due("a day is forgotten: count(5)", day.count(5), 4);
        due("a day is forgotten: count(6)", day.count(6), 0);
    }

    /** Acts until sixteen have been added behind the first, then all of those are undone. */
    private static void fillRow(ClockOnce x, int daysGone) {
        for (int one = 0; one < 4; one++) {
            x.ask(one, one);
            x.sell(one);
        }
        days(x, 9 - daysGone);
        for (int left = x.undo(); left > 0; left = x.undo()) {
            continue;
        }
    }

    private void refusedIsNoAct() {
        ClockOnce x = Check.townOf(TWO);
        x.day();
        x.sell(2);
        x.ask(0, 2);
        x.ask(1, 0);
        x.undo();
        due("what is refused is no act: count(4)", x.count(4), 0);
        due("what is refused is no act: count(9)", x.count(9), 0);
        x.sell(0);
        x.sell(0);
        due("sold but once: count(9)", x.count(9), 1);
        days(x, 10);
        due("nine days: count(9)", x.count(9), 10);
    }

    private void undoneOneByOne() {
        ClockOnce x = Check.townOf(TWO);
        due("none yet: undo()", x.undo(), STATE);
        x.day();
        x.ask(0, 1);
        x.day();
        x.sell(1);
        due("sold: undo()", x.undo(), 3);
        due("sold, undone: count(5)", x.count(5), 4);
        due("sold, undone: count(6)", x.count(6), 0);
        due("a day: undo()", x.undo(), 2);
        due("a day undone: count(4)", x.count(4), 1);
        due("a day undone: count(5)", x.count(5), 2);
        due("a day undone, not asked: count(8)", x.count(8), 2);
        due("asked: undo()", x.undo(), 1);
        due("asked, undone: count(8)", x.count(8), 0);
        due("asked, undone: asker(0, 3)", x.asker(0, 3), 0);
        due("the first: undo()", x.undo(), 0);
        due("the first undone: count(5)", x.count(5), 0);
        due("none left: undo()", x.undo(), STATE);
        due("once more: day()", x.day(), 2);
        due("once more: count(9)", x.count(9), 1);
    }

    private void undoneAskedByAnotherToo() {
        ClockOnce x = Check.townOf(things(1) + "A00A00A00");
        x.ask(0, 0);
        x.ask(2, 0);
        x.undo();
        due("one undone: count(8)", x.count(8), 1);
        due("one undone: heard of the other one", x.asker(1, 3), 1);
        due("one undone: not heard any more", x.asker(2, 3), 0);
        due("one undone: thing(0, 6)", x.thing(0, 6), 3);
        x.undo();
        due("both undone: count(8)", x.count(8), 0);
        due("both undone: thing(0, 6)", x.thing(0, 6), NONE);
    }

    private void undoneDayAtTheLast() {
        ClockOnce x = Check.townOf(LAST);
        days(x, 9);
        due("on day 9: undo()", x.undo(), 8);
        due("on day 8: count(5)", x.count(5), 8);
        due("on day 8: sell(0)", x.sell(0), 9);
        due("on day 8, sold: day()", x.day(), 0);
        due("on day 9, sold: count(5)", x.count(5), 17);
    }
}
