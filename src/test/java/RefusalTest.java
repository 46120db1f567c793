import java.util.Map;
import java.util.Set;
import java.util.TreeSet;
import java.util.function.Supplier;

/**
 * Each refusal that a promise names is told, of several the first that the call names, and what is refused changes
 * nothing; what answers changes no more than its promise says.
 */
final class RefusalTest {
    private static final int UNKNOWN = -1, OUTSIDE = -2, STATE = -3, FULL = -4;
    private static final int LEAST = Integer.MIN_VALUE, MOST = Integer.MAX_VALUE;
    // Below and above what is there, in any state.
    private static final int[] NO_ONE = {-1, 4, LEAST, MOST};

    private final Check check = new Check("RefusalTest");
    private final Map<String, Supplier<ClockOnce>> states = States.all();

    public static void main(String[] args) {
        RefusalTest test = new RefusalTest();
        for (String state : test.states.keySet()) {
            test.noSuchThing(state);
            test.noSuchAsker(state);
            test.noSuchSlot(state);
            test.otherNumbers(state);
            test.answersChangeNothing(state);
        }
        test.ofNothing();
        test.ofTheBusy();
        test.ofTheFull();
        test.ofTheLastDay();
        test.ofNoParts();
        test.ofSlots();
        test.whatCallsChange();
        test.check.end();
    }

    /** The call answers so, and what it changes is as told, with ", " between. */
    private void expect(String call, String state, Whole.Call on, Long want, String changes) {
        Supplier<ClockOnce> made = states.get(state);
        String name = state + ": " + call;
        long got = on.on(made.get());
        if (want != null) {
            check.due(name, got, want);
        }
        Set<String> changed = Whole.changed(Whole.after(made, Whole.NOTHING), Whole.after(made, on));
        Set<String> due = new TreeSet<>(changes.isEmpty() ? Set.of() : Set.of(changes.split(", ")));
        check.holds(name + " changed " + changed + ", due is " + due, changed.equals(due));
    }

    private void refused(String call, String state, Whole.Call on, int want) {
        expect(call, state, on, (long) want, "");
    }

    private void refusedBoth(String call, String state, Whole.Call above, Whole.Call below, int want) {
        refused(call + " above", state, above, want);
        refused(call + " below", state, below, want);
    }

    private void noSuchThing(String state) {
        for (int no : NO_ONE) {
            refused("thing(" + no + ", 0)", state, x -> x.thing(no, 0), UNKNOWN);
            refused("thing(" + no + ", 7)", state, x -> x.thing(no, 7), UNKNOWN);
            refused("ask(0, " + no + ")", state, x -> x.ask(0, no), UNKNOWN);
            refused("sell(" + no + ")", state, x -> x.sell(no), UNKNOWN);
            refusedBoth("likely(0, " + no + ")", state, x -> x.likely(0, no, true), x -> x.likely(0, no, false), UNKNOWN);
            refused("wise(0, " + no + ")", state, x -> x.wise(0, no), UNKNOWN);
            refused("see(" + no + ", 0)", state, x -> x.see(no, 0), UNKNOWN);
            refused("see(" + no + ", 10)", state, x -> x.see(no, 10), UNKNOWN);
        }
    }

    private void noSuchAsker(String state) {
        for (int no : NO_ONE) {
            refused("asker(" + no + ", 0)", state, x -> x.asker(no, 0), UNKNOWN);
            refused("asker(" + no + ", 4)", state, x -> x.asker(no, 4), UNKNOWN);
            refused("ask(" + no + ", 0)", state, x -> x.ask(no, 0), UNKNOWN);
            refused("ask(" + no + ", " + no + ")", state, x -> x.ask(no, no), UNKNOWN);
            refused("holds(" + no + ")", state, x -> x.holds(no), UNKNOWN);
            refusedBoth("likely(" + no + ", 0)", state, x -> x.likely(no, 0, true), x -> x.likely(no, 0, false), UNKNOWN);
            refused("wise(" + no + ", 0)", state, x -> x.wise(no, 0), UNKNOWN);
            refused("by(" + no + ")", state, x -> x.by(no), UNKNOWN);
            refusedBoth("share(" + no + ")", state, x -> x.share(no, true), x -> x.share(no, false), UNKNOWN);
        }
    }

    private void noSuchSlot(String state) {
        for (int no : new int[] {-1, 2, LEAST, MOST}) {
            refused("keep(" + no + ")", state, x -> x.keep(no), UNKNOWN);
            refused("again(" + no + ")", state, x -> x.again(no), UNKNOWN);
        }
    }

    private void otherNumbers(String state) {
        for (int no : new int[] {-1, 256, LEAST, MOST}) {
            refused("write(" + no + ")", state, x -> x.write(no), OUTSIDE);
        }
        for (int no : NO_ONE) {
            refused("worlds(" + no + ")", state, x -> x.worlds(no), OUTSIDE);
        }
        for (int no : new int[] {-1, 16, LEAST, MOST}) {
            refusedBoth("worth(" + no + ")", state, x -> x.worth(no, true), x -> x.worth(no, false), OUTSIDE);
        }
        for (int no : new int[] {-1, 0, 31, LEAST, MOST}) {
            refused("year(" + no + ")", state, x -> x.year(no), OUTSIDE);
        }
        for (int no : new int[] {-1, 11, LEAST, MOST}) {
            refused("count(" + no + ")", state, x -> x.count(no), OUTSIDE);
        }
        for (int no : new int[] {-1, 0, 9, LEAST, MOST}) {
            refused("judge(" + no + ", 0)", state, x -> x.judge(no, 0), OUTSIDE);
        }
        for (int no : new int[] {-1, 10, LEAST, MOST}) {
            refused("judge(1, " + no + ")", state, x -> x.judge(1, no), OUTSIDE);
        }
        refused("judge(8, 100000000)", state, x -> x.judge(8, 100000000), OUTSIDE);
        refused("judge(8, MOST)", state, x -> x.judge(8, MOST), OUTSIDE);
    }

    /** Whatever these answer, they only tell. */
    private void answersChangeNothing(String state) {
        tells("fault()", state, x -> x.fault());
        tells("toAsk()", state, x -> x.toAsk());
        tells("fewest()", state, x -> x.fewest());
        tells("which()", state, x -> x.which());
        for (int one = 0; one < 4; one++) {
            int i = one;
            tells("thing(" + i + ", 6)", state, x -> x.thing(i, 6));
            tells("asker(" + i + ", 3)", state, x -> x.asker(i, 3));
            tells("worlds(" + i + ")", state, x -> x.worlds(i));
            tells("holds(" + i + ")", state, x -> x.holds(i));
            tells("likely(" + i + ", 0)", state, x -> x.likely(i, 0, true));
            tells("wise(" + i + ", 0)", state, x -> x.wise(i, 0));
            tells("worth(" + i + ")", state, x -> x.worth(i, true));
            tells("by(" + i + ")", state, x -> x.by(i));
            tells("share(" + i + ")", state, x -> x.share(i, true));
            tells("judge(2, 4" + i + ")", state, x -> x.judge(2, 40 + i));
        }
        for (int what = 0; what <= 10; what++) {
            int i = what;
            tells("count(" + i + ")", state, x -> x.count(i));
        }
    }

    private void tells(String call, String state, Whole.Call on) {
        expect(call, state, on, null, "");
    }

    private void ofNothing() {
        refused("town()", "new", x -> x.town(), STATE);
        refused("undo()", "new", x -> x.undo(), STATE);
        refused("again(0)", "new", x -> x.again(0), STATE);
        refused("again(1)", "new", x -> x.again(1), STATE);
        refused("thing(0, 0)", "new", x -> x.thing(0, 0), UNKNOWN);
        refused("asker(0, 0)", "new", x -> x.asker(0, 0), UNKNOWN);
        refused("ask(0, 0)", "new", x -> x.ask(0, 0), UNKNOWN);
        refused("sell(0)", "new", x -> x.sell(0), UNKNOWN);
        refused("see(0, 0)", "new", x -> x.see(0, 0), UNKNOWN);
        refusedBoth("worth(1)", "new", x -> x.worth(1, true), x -> x.worth(1, false), OUTSIDE);
    }

    private void ofTheBusy() {
        refused("thing(2, 0), one above the last", "busy", x -> x.thing(2, 0), UNKNOWN);
        refused("thing(2, 7), UNKNOWN ahead of OUTSIDE", "busy", x -> x.thing(2, 7), UNKNOWN);
        refused("thing(0, 7)", "busy", x -> x.thing(0, 7), OUTSIDE);
        refused("thing(0, -1)", "busy", x -> x.thing(0, -1), OUTSIDE);
        refused("asker(3, 0), one above the last", "busy", x -> x.asker(3, 0), UNKNOWN);
        refused("asker(3, 4), UNKNOWN ahead of OUTSIDE", "busy", x -> x.asker(3, 4), UNKNOWN);
        refused("asker(0, 4)", "busy", x -> x.asker(0, 4), OUTSIDE);
        refused("asker(0, -1)", "busy", x -> x.asker(0, -1), OUTSIDE);
        refused("ask(1, 2), no such thing", "busy", x -> x.ask(1, 2), UNKNOWN);
        refused("ask(3, 1), no such asker", "busy", x -> x.ask(3, 1), UNKNOWN);
        refused("ask(0, 2), UNKNOWN ahead of OUTSIDE and STATE", "busy", x -> x.ask(0, 2), UNKNOWN);
        refused("ask(0, 1), OUTSIDE ahead of STATE", "busy", x -> x.ask(0, 1), OUTSIDE);
        refused("ask(0, 0), asked already", "busy", x -> x.ask(0, 0), STATE);
        refused("ask(2, 0), may not", "busy", x -> x.ask(2, 0), OUTSIDE);
        refused("sell(0), sold", "busy", x -> x.sell(0), STATE);
        refused("sell(1), sold", "busy", x -> x.sell(1), STATE);
        refused("wise(1, 0), sold", "busy", x -> x.wise(1, 0), STATE);
        refused("wise(3, 0), UNKNOWN ahead of STATE", "busy", x -> x.wise(3, 0), UNKNOWN);
        refusedBoth("worth(4)", "busy", x -> x.worth(4, true), x -> x.worth(4, false), OUTSIDE);
        refused("see(2, 0)", "busy", x -> x.see(2, 0), UNKNOWN);
        refused("see(2, 10), UNKNOWN ahead of OUTSIDE", "busy", x -> x.see(2, 10), UNKNOWN);
        refused("see(0, 10)", "busy", x -> x.see(0, 10), OUTSIDE);
        refused("see(0, -1)", "busy", x -> x.see(0, -1), OUTSIDE);
        refused("see(0, LEAST)", "busy", x -> x.see(0, LEAST), OUTSIDE);
    }

    private void ofTheFull() {
        refused("write('0')", "text full", x -> x.write('0'), FULL);
        refused("write(256), OUTSIDE ahead of FULL", "text full", x -> x.write(256), OUTSIDE);
        refused("town() with a fault", "text full", x -> x.town(), STATE);
        refused("town() of a text that is not at its end", "text open", x -> x.town(), STATE);
        refused("see(0, 5)", "seen full", x -> x.see(0, 5), FULL);
        refused("see(1, 9)", "seen full", x -> x.see(1, 9), FULL);
        refused("see(0, 10), OUTSIDE ahead of FULL", "seen full", x -> x.see(0, 10), OUTSIDE);
        refused("see(2, 5), UNKNOWN ahead of FULL", "seen full", x -> x.see(2, 5), UNKNOWN);
        refused("see(2, 10), UNKNOWN ahead of all", "seen full", x -> x.see(2, 10), UNKNOWN);
    }

    private void ofTheLastDay() {
        refused("day()", "last day", x -> x.day(), STATE);
        refused("day(), row full", "row full", x -> x.day(), STATE);
        refused("sell(1)", "last day", x -> x.sell(1), STATE);
        refused("ask(2, 1)", "last day", x -> x.ask(2, 1), STATE);
    }

    private void ofNoParts() {
        String state = "no parts";
        refusedBoth("likely(2, 1)", state, x -> x.likely(2, 1, true), x -> x.likely(2, 1, false), STATE);
        refusedBoth("likely(2, 2)", state, x -> x.likely(2, 2, true), x -> x.likely(2, 2, false), UNKNOWN);
        refusedBoth("likely(3, 1)", state, x -> x.likely(3, 1, true), x -> x.likely(3, 1, false), UNKNOWN);
        refused("wise(2, 0), no parts", state, x -> x.wise(2, 0), STATE);
        refused("wise(2, 1), sold, too", state, x -> x.wise(2, 1), STATE);
        refused("wise(3, 0)", state, x -> x.wise(3, 0), UNKNOWN);
        refused("wise(2, 2)", state, x -> x.wise(2, 2), UNKNOWN);
        refusedBoth("worth(0)", state, x -> x.worth(0, true), x -> x.worth(0, false), STATE);
        refusedBoth("worth(3)", state, x -> x.worth(3, true), x -> x.worth(3, false), STATE);
        refusedBoth("worth(4), OUTSIDE ahead of STATE", state, x -> x.worth(4, true), x -> x.worth(4, false), OUTSIDE);
        refused("toAsk()", state, x -> x.toAsk(), STATE);
        refused("by(0), asked", state, x -> x.by(0), STATE);
        refused("by(2)", state, x -> x.by(2), STATE);
        refused("by(3), UNKNOWN ahead of STATE", state, x -> x.by(3), UNKNOWN);
        refusedBoth("share(0), asked", state, x -> x.share(0, true), x -> x.share(0, false), STATE);
        refusedBoth("share(2)", state, x -> x.share(2, true), x -> x.share(2, false), STATE);
        refusedBoth("share(3)", state, x -> x.share(3, true), x -> x.share(3, false), UNKNOWN);
    }

    private void ofSlots() {
        refused("again(0), none kept there", "one kept", x -> x.again(0), STATE);
        refused("again(2)", "one kept", x -> x.again(2), UNKNOWN);
        refused("undo(), the row is empty", "gone on", x -> x.undo(), STATE);
    }

    private void whatCallsChange() {
        expect("write('0')", "busy", x -> x.write('0'), 23L, "TEXT");
        expect("wipe()", "busy", x -> x.wipe(), 22L, "TEXT");
        expect("wipe()", "text full", x -> x.wipe(), 48L, "TEXT");
        expect("town()", "busy", x -> x.town(), 23L, "LIFE, ROW, SLOT 0, SLOT 1");
        expect("another town()", "busy", RefusalTest::makeAnother, 11L, "LIFE, ROW, SLOT 0, SLOT 1, TEXT, TOWN");
        expect("ask(1, 0)", "busy", x -> x.ask(1, 0), 2L, "LIFE, ROW");
        expect("day()", "busy", x -> x.day(), 0L, "LIFE, ROW");
        expect("sell(1)", "one kept", x -> x.sell(1), 8L, "LIFE, ROW");
        expect("undo()", "busy", x -> x.undo(), 5L, "LIFE, ROW");
        expect("undo()", "row full", x -> x.undo(), 15L, "LIFE, ROW");
        expect("see(0, 1)", "busy", x -> x.see(0, 1), 2L, "SEEN");
        expect("unsee()", "busy", x -> x.unsee(), 1L, "SEEN");
        expect("unsee()", "seen full", x -> x.unsee(), 6L, "SEEN");
        expect("unsee() of none", "new", x -> x.unsee(), 0L, "");
        expect("seed(78)", "busy", x -> x.seed(78), 77L, "SEED");
        expect("year(30)", "busy", x -> x.year(30), null, "SEED");
        expect("year(30) of no things", "new", x -> x.year(30), 0L, "");
        expect("keep(0)", "busy", x -> x.keep(0), 11L, "SLOT 0");
        expect("keep(1)", "busy", x -> x.keep(1), 11L, "SLOT 1");
        expect("again(0)", "busy", x -> x.again(0), 10L, "LIFE, ROW");
        expect("again(1)", "busy", x -> x.again(1), 11L, "LIFE, ROW");
    }

    private static long makeAnother(ClockOnce x) {
        Check.write(x, "CT15551A00");
        return x.town();
    }
}
