/** Each promise by examples reckoned by hand: what is ordinary, the edges, what is refused. */
final class PromiseTest {
    private static final int UNKNOWN = -1, OUTSIDE = -2, STATE = -3, FULL = -4, NONE = -9;
    private static final int LEAST = Integer.MIN_VALUE, MOST = Integer.MAX_VALUE;

    // Kept to day k from day 0, the first gives 3 4 3.5 4 4.5 5 4 in the mean (early 4 on day 1, late
    // 8 on day 5), the second 8 9 10 7.8 8.4 4.2 (early 10 on day 2, late 12 on day 4).
    private static final String PAIR = "CT26530T35480A00A01A11";
    // The first early makes the second early: parts 20 (both early), 20 (the first late), 30 (both late).
    private static final String LINKED = "CT26531T35481A00A11A00A11L01";
    // Truly early, though it never is by its tenths; the second is unlike it.
    private static final String UNLIKELY = "CT23010T45550A01A11";

    private final Check check = new Check("PromiseTest");

    public static void main(String[] args) {
        PromiseTest test = new PromiseTest();
        test.promise1New();
        test.promise2Write();
        test.promise3Wipe();
        test.promise4Fault();
        test.promise4FaultAnew();
        test.promise4FaultOfRoom();
        test.promise5Town();
        test.promise6Thing();
        test.promise7Asker();
        test.promise8Ask();
        test.promise9Day();
        test.promise10Sell();
        test.promise11Undo();
        test.promise12Worlds();
        test.promise13Holds();
        test.promise14Likely();
        test.promise15Wise();
        test.promise16Worth();
        test.promise17ToAsk();
        test.promise18By();
        test.promise19Fewest();
        test.promise20Share();
        test.promise21See();
        test.promise22Unsee();
        test.promise23Which();
        test.promise24Judge();
        test.promise25Seed();
        test.promise26Year();
        test.promise27Keep();
        test.promise28Again();
        test.promise29Count();
        test.check.end();
    }

    private void due(String call, long got, long want) {
        check.due(call, got, want);
    }

    private void counts(String when, ClockOnce x, int... want) {
        for (int what = 0; what < want.length; what++) {
            due(when + " count(" + what + ")", x.count(what), want[what]);
        }
    }

    private static void days(ClockOnce x, int n) {
        for (int i = 0; i < n; i++) {
            x.day();
        }
    }

    private void promise1New() {
        ClockOnce x = new ClockOnce();
        counts("new", x, 0, 0, 0, 0, 0, 0, 0, 0, 0, 0, 0);
        due("new fault()", x.fault(), 0);
        due("new thing(0, 0)", x.thing(0, 0), UNKNOWN);
        due("new asker(0, 0)", x.asker(0, 0), UNKNOWN);
        due("new worlds(2)", x.worlds(2), 1);
        due("new seed(0)", x.seed(0), 0);
        due("new again(0)", x.again(0), STATE);
        due("new again(1)", x.again(1), STATE);
        due("new undo()", x.undo(), STATE);
        due("UNKNOWN", ClockOnce.UNKNOWN, UNKNOWN);
        due("OUTSIDE", ClockOnce.OUTSIDE, OUTSIDE);
        due("STATE", ClockOnce.STATE, STATE);
        due("FULL", ClockOnce.FULL, FULL);
        due("NONE", ClockOnce.NONE, NONE);
    }

    private void promise2Write() {
        ClockOnce x = new ClockOnce();
        for (int letter : new int[] {-1, 256, LEAST, MOST}) {
            due("write(" + letter + ")", x.write(letter), OUTSIDE);
        }
        due("refused: count(0)", x.count(0), 0);
        due("write(0)", x.write(0), 1);
        due("write(255)", x.write(255), 2);
        for (int i = 3; i <= 48; i++) {
            due("write, " + i, x.write('C'), i);
        }
        due("write at 48", x.write('C'), FULL);
        due("write(256) at 48", x.write(256), OUTSIDE);
        due("refused: count(0) at 48", x.count(0), 48);
    }

    private void promise3Wipe() {
        ClockOnce x = new ClockOnce();
        due("wipe() of none", x.wipe(), 0);
        Check.write(x, "CT");
        due("wipe()", x.wipe(), 2);
        due("wiped count(0)", x.count(0), 0);
        due("wiped fault()", x.fault(), 0);
        due("wiped write", x.write('C'), 1);
        due("wiped and written fault()", x.fault(), NONE);
    }

    private void fault(String text, int want) {
        ClockOnce x = new ClockOnce();
        Check.write(x, text);
        due("fault() of " + text, x.fault(), want);
        due("town() of " + text, x.town() < 0 ? STATE : 0, want == NONE ? 0 : STATE);
        due("after fault() count(0) of " + text, x.count(0), text.length());
    }

    private void promise4Fault() {
        fault("", 0);
        fault("c", 0);
        fault("TC", 0);
        fault("C", NONE);
        fault("CC", 1);
        fault("C0", 1);
        fault("CA", 1);
        fault("CL", 1);
        fault("CT", 2);
        fault("CT0", 2);
        fault("CT9", 2);
        fault("CTT", 2);
        fault("CT1", 3);
        fault("CT8", 3);
        fault("CT11", 3);
        fault("CT87", 3);
        fault("CT89", 4);
        fault("CT12", 4);
        fault("CT12:", 4);
        fault("CT12/", 4);
        fault("CT120", 5);
        fault("CT1200", 5);
        fault("CT1291", 6);
        fault("CT12912", 6);
        fault("CT129:", 5);
        fault("CT12911", NONE);
        fault("CT12190T89911", NONE);
        fault("CT12190T89901", 11);
        fault("CT12911A", 8);
        fault("CT12911A1", 8);
        fault("CT12911A0", 9);
        fault("CT12911A01", 9);
        fault("CT12911A00", NONE);
        fault("CT12911A00X", 10);
        fault("CT12911L", 7);
        fault("CT12911T12911A10", 15);
        fault("CT12911T12911A01", NONE);
        fault("CT12911T12911A12", 15);
    }

    private void promise4FaultAnew() {
        ClockOnce x = new ClockOnce();
        String[] texts = {"CT", "C", "CT1293", "CT12911", "X", "CT12911T12911L1", "CT12911A0", "CT12911", "", "C"};
        int[] faults = {2, NONE, 6, NONE, 0, 15, 9, NONE, 0, NONE};
        for (int i = 0; i < texts.length; i++) {
            Check.write(x, texts[i]);
            due("fault() then of " + texts[i], x.fault(), faults[i]);
            due("fault() once more of " + texts[i], x.fault(), faults[i]);
        }
        counts("fault() changes nothing", x, 1, 0, 0, 0);
    }

    private void promise4FaultOfRoom() {
        String both = "CT12911T12911";
        fault(both + "L", 14);
        fault(both + "L2", 14);
        fault(both + "L0", 15);
        fault(both + "L00", 15);
        fault(both + "L02", 15);
        fault(both + "L01", NONE);
        fault(both + "L01L0", 17);
        fault(both + "L01L1", 18);
        fault(both + "L01L10", NONE);
        fault(both + "L01L10L", 19);
        // The first is truly early, the second late: only a link from late to early is so.
        fault("CT12911T12910L", 14);
        fault("CT12911T12910L0", 15);
        fault("CT12911T12910L1", 14);
        fault("CT12910T12911L0", 14);
        fault("CT12910T12911L1", 15);
        fault("CT12910T12911L10", NONE);
        fault("CT12910T12911L10L", 16);
        fault("CT12910T12911T12910L01", 21);
        fault("CT12910T12911T12910L02", NONE);
        String three = both + "T12911";
        fault(three + "L01L10L02", NONE);
        fault(three + "L01L10L02L", 28);
        fault(three + "L01L02L0", 26);
        fault(three + "A00A01A02A12", NONE);
        fault(three + "A00A01A02A12A", 31);
        String four = three + "T12911";
        fault(four, NONE);
        fault(four + "T", 25);
        fault(four + "A03A13A23A33L01L12L23", NONE);
        fault(four + "A03A13A23A33L01L12L23T", 46);
        // What is told later is not there yet.
        fault("CT12911A01T12911", 9);
    }

    private void promise5Town() {
        ClockOnce x = new ClockOnce();
        due("town() of no text", x.town(), STATE);
        Check.write(x, PAIR);
        due("town()", x.town(), 23);
        counts("made", x, 22, 2, 3, 0, 0, 0, 0, 0, 0, 0, 0);
        x.ask(0, 0);
        x.day();
        x.sell(1);
        x.see(1, 4);
        x.seed(77);
        x.keep(0);
        x.keep(1);
        x.write('X');
        due("town() with a fault", x.town(), STATE);
        counts("refused", x, 23, 2, 3, 0, 1, 10, 2, 0, 1, 3, 1);
        due("refused: thing(1, 4)", x.thing(1, 4), 1);
        Check.write(x, LINKED);
        due("town() anew", x.town(), 24);
        counts("anew", x, LINKED.length(), 2, 4, 1, 0, 0, 0, 0, 0, 0, 1);
        due("anew undo()", x.undo(), STATE);
        due("anew again(0)", x.again(0), STATE);
        due("anew again(1)", x.again(1), STATE);
        due("anew asker(0, 2)", x.asker(0, 2), NONE);
        due("anew thing(1, 4)", x.thing(1, 4), NONE);
        due("anew seed(0)", x.seed(0), 77);
        x.day();
        due("town() the same", x.town(), 24);
        due("the same: count(4)", x.count(4), 0);
        due("the same: worlds(2)", x.worlds(2), 70);
        Check.write(x, "C");
        due("town() of C", x.town(), 0);
        due("C: worlds(2)", x.worlds(2), 1);
        due("C: unsee()", x.unsee(), 1);
        int[] ends = {6, 2, 6, 2, 2};
        for (int end : ends) {
            Check.write(x, end == 6 ? "CT26531A00" : "CT26530A00");
            x.town();
            due("truth anew ask(0, 0)", x.ask(0, 0), end);
        }
    }

    private void promise6Thing() {
        ClockOnce x = Check.townOf(PAIR);
        int[] first = {2, 6, 5, 3, NONE, 0, NONE};
        int[] second = {3, 5, 4, 8, NONE, 0, NONE};
        for (int what = 0; what < 7; what++) {
            due("thing(0, " + what + ")", x.thing(0, what), first[what]);
            due("thing(1, " + what + ")", x.thing(1, what), second[what]);
        }
        due("thing(2, 0)", x.thing(2, 0), UNKNOWN);
        due("thing(-1, 0)", x.thing(-1, 0), UNKNOWN);
        due("thing(MOST, 9)", x.thing(MOST, 9), UNKNOWN);
        due("thing(LEAST, 0)", x.thing(LEAST, 0), UNKNOWN);
        due("thing(0, 7)", x.thing(0, 7), OUTSIDE);
        due("thing(0, -1)", x.thing(0, -1), OUTSIDE);
        x.ask(0, 0);
        due("asked thing(0, 6)", x.thing(0, 6), 2);
        due("not asked thing(1, 6)", x.thing(1, 6), NONE);
        days(x, 2);
        due("ended thing(0, 5)", x.thing(0, 5), 1);
        due("not ended thing(1, 5)", x.thing(1, 5), 0);
        due("not ended thing(1, 6)", x.thing(1, 6), NONE);
        x.sell(1);
        due("sold thing(1, 4)", x.thing(1, 4), 2);
        x.day();
        due("ended thing(1, 5)", x.thing(1, 5), 1);
        due("ended thing(1, 6)", x.thing(1, 6), 3);
        due("sold before thing(1, 4)", x.thing(1, 4), 2);
        due("not sold thing(0, 4)", x.thing(0, 4), NONE);
    }

    private void promise7Asker() {
        ClockOnce x = Check.townOf("CT12511T34511T56511A02A11A12A22");
        due("asker(0, 0)", x.asker(0, 0), 0);
        due("asker(0, 1)", x.asker(0, 1), 2);
        due("asker(1, 1)", x.asker(1, 1), 1);
        due("asker(2, 0)", x.asker(2, 0), 1);
        due("asker(3, 2)", x.asker(3, 2), NONE);
        due("asker(3, 3)", x.asker(3, 3), 0);
        due("asker(4, 0)", x.asker(4, 0), UNKNOWN);
        due("asker(-1, 9)", x.asker(-1, 9), UNKNOWN);
        due("asker(0, 4)", x.asker(0, 4), OUTSIDE);
        due("asker(0, -1)", x.asker(0, -1), OUTSIDE);
        x.ask(0, 0);
        x.ask(3, 2);
        due("asked asker(0, 2)", x.asker(0, 2), 0);
        due("asked asker(3, 2)", x.asker(3, 2), 2);
        due("heard by 0", x.asker(0, 3), 1);
        due("heard by 1", x.asker(1, 3), 1);
        due("heard by 2", x.asker(2, 3), 4);
        due("heard by 3", x.asker(3, 3), 4);
        x.ask(1, 1);
        due("heard by 0 of 1", x.asker(0, 3), 3);
        due("heard by 1 of 1", x.asker(1, 3), 3);
        due("heard by 2 of both", x.asker(2, 3), 6);
        due("heard by 3, not of 1", x.asker(3, 3), 4);
    }

    private void promise8Ask() {
        ClockOnce x = Check.townOf("CT12511T34510T56511A02A11A12");
        due("ask(3, 0)", x.ask(3, 0), UNKNOWN);
        due("ask(-1, 0)", x.ask(-1, 0), UNKNOWN);
        due("ask(1, 3)", x.ask(1, 3), UNKNOWN);
        due("ask(0, -1)", x.ask(0, -1), UNKNOWN);
        due("ask(MOST, LEAST)", x.ask(MOST, LEAST), UNKNOWN);
        due("ask(1, 0)", x.ask(1, 0), OUTSIDE);
        due("ask(1, 2)", x.ask(1, 2), OUTSIDE);
        counts("refused ask", x, 28, 3, 3, 0, 0, 0, 0, 0, 0, 0, 0);
        due("ask(0, 0)", x.ask(0, 0), 2);
        due("ask(0, 1) again", x.ask(0, 1), STATE);
        due("ask(0, 3) again", x.ask(0, 3), UNKNOWN);
        due("ask(1, 1)", x.ask(1, 1), 3);
        due("ask(1, 0) again", x.ask(1, 0), OUTSIDE);
        due("ask(2, 1), asked before", x.ask(2, 1), 3);
        counts("asked", x, 28, 3, 3, 0, 0, 0, 0, 0, 3, 3, 0);
        x.undo();
        days(x, 9);
        x.sell(2);
        due("ask(2, 2), ended and sold", x.ask(2, 2), 6);
    }

    private void promise9Day() {
        ClockOnce x = Check.townOf(PAIR);
        int[] gains = {2, 2, 1, 0, 0, 0, 0, 0, 0};
        int coins = 0;
        for (int i = 0; i < 9; i++) {
            due("day() " + i, x.day(), gains[i]);
            coins += gains[i];
            due("day " + i + " count(4)", x.count(4), i + 1);
            due("day " + i + " count(5)", x.count(5), coins);
        }
        due("day() on 9", x.day(), STATE);
        counts("refused day", x, 22, 2, 3, 0, 9, 5, 0, 3, 0, 9, 0);
        ClockOnce sold = Check.townOf(PAIR);
        sold.sell(0);
        due("day(), one sold", sold.day(), 1);
        due("day() of no things", new ClockOnce().day(), 0);
    }

    private void promise10Sell() {
        ClockOnce x = Check.townOf(PAIR);
        due("sell(2)", x.sell(2), UNKNOWN);
        due("sell(-1)", x.sell(-1), UNKNOWN);
        days(x, 2);
        due("sell(0) on its end", x.sell(0), 0);
        due("sell(0) again", x.sell(0), STATE);
        due("sell(1)", x.sell(1), 8);
        due("sell(1) again", x.sell(1), STATE);
        counts("sold", x, 22, 2, 3, 0, 2, 12, 3, 1, 0, 4, 0);
        ClockOnce late = Check.townOf(PAIR);
        late.day();
        due("sell(0) ahead of its end", late.sell(0), 3);
    }

    private void promise11Undo() {
        ClockOnce x = Check.townOf(PAIR);
        due("undo() of none", x.undo(), STATE);
        x.ask(1, 1);
        x.day();
        x.sell(0);
        due("undo() sold", x.undo(), 2);
        counts("sold undone", x, 22, 2, 3, 0, 1, 2, 0, 0, 2, 2, 0);
        due("sold undone thing(0, 4)", x.thing(0, 4), NONE);
        due("undo() day", x.undo(), 1);
        counts("day undone", x, 22, 2, 3, 0, 0, 0, 0, 0, 2, 1, 0);
        due("undo() asked", x.undo(), 0);
        counts("asked undone", x, 22, 2, 3, 0, 0, 0, 0, 0, 0, 0, 0);
        due("asked undone asker(1, 2)", x.asker(1, 2), NONE);
        due("undo() of none left", x.undo(), STATE);
        ClockOnce many = Check.townOf("CT12511T23511T34511T45511A03A03A03A03");
        many.day();
        many.ask(3, 3);
        for (int thing = 0; thing < 4; thing++) {
            many.sell(thing);
        }
        for (int asker = 0; asker < 3; asker++) {
            many.ask(asker, asker);
        }
        days(many, 7);
        due("16 acts", many.count(9), 16);
        days(many, 1);
        due("17 acts", many.count(9), 16);
        for (int left = 15; left >= 0; left--) {
            due("undo() of many", many.undo(), left);
        }
        due("undo() of the forgotten", many.undo(), STATE);
        counts("undone but the first", many, 37, 4, 4, 0, 1, 4, 0, 0, 0, 0, 0);
    }

    private void promise12Worlds() {
        ClockOnce x = Check.townOf(PAIR);
        int[] atFirst = {4, 4, 100, 100};
        for (int what = 0; what < 4; what++) {
            due("worlds(" + what + ")", x.worlds(what), atFirst[what]);
        }
        due("worlds(4)", x.worlds(4), OUTSIDE);
        due("worlds(-1)", x.worlds(-1), OUTSIDE);
        days(x, 2);
        int[] onTwo = {4, 2, 100, 50};
        for (int what = 0; what < 4; what++) {
            due("on day 2 worlds(" + what + ")", x.worlds(what), onTwo[what]);
        }
        days(x, 1);
        due("on day 3 worlds(1)", x.worlds(1), 1);
        due("on day 3 worlds(3)", x.worlds(3), 20);
        ClockOnce linked = Check.townOf(LINKED);
        due("linked worlds(0)", linked.worlds(0), 3);
        due("linked worlds(2)", linked.worlds(2), 70);
        days(linked, 2);
        due("linked on day 2 worlds(1)", linked.worlds(1), 2);
        due("linked on day 2 worlds(3)", linked.worlds(3), 50);
        days(linked, 1);
        due("linked on day 3 worlds(1)", linked.worlds(1), 1);
        due("linked on day 3 worlds(3)", linked.worlds(3), 30);
        ClockOnce unlikely = Check.townOf(UNLIKELY);
        due("unlikely worlds(0)", unlikely.worlds(0), 4);
        due("unlikely worlds(2)", unlikely.worlds(2), 100);
        days(unlikely, 2);
        due("unlikely on day 2 worlds(1)", unlikely.worlds(1), 2);
        due("unlikely on day 2 worlds(3)", unlikely.worlds(3), 0);
    }

    private void promise13Holds() {
        ClockOnce x = Check.townOf(LINKED);
        due("holds(4)", x.holds(4), UNKNOWN);
        due("holds(-1)", x.holds(-1), UNKNOWN);
        due("holds(0)", x.holds(0), 3);
        x.ask(1, 1);
        due("the second late: holds(0)", x.holds(0), 1);
        due("the second late: holds(1)", x.holds(1), 1);
        due("the second late: holds(2)", x.holds(2), 1);
        due("not heard: holds(3)", x.holds(3), 3);
        x.undo();
        x.ask(0, 0);
        due("the first late: holds(0)", x.holds(0), 2);
        due("not heard: holds(2)", x.holds(2), 3);
        days(x, 3);
        due("on day 3 holds(0)", x.holds(0), 1);
        due("on day 3 holds(3)", x.holds(3), 1);
        ClockOnce unlikely = Check.townOf(UNLIKELY);
        unlikely.ask(0, 0);
        due("of no parts, too: holds(0)", unlikely.holds(0), 2);
    }

    private void likely(String when, ClockOnce x, int asker, int thing, int above, int below) {
        due(when + " likely(" + asker + ", " + thing + ", true)", x.likely(asker, thing, true), above);
        due(when + " likely(" + asker + ", " + thing + ", false)", x.likely(asker, thing, false), below);
    }

    private void promise14Likely() {
        ClockOnce x = Check.townOf(LINKED);
        likely("none", x, 4, 0, UNKNOWN, UNKNOWN);
        likely("none", x, 0, 2, UNKNOWN, UNKNOWN);
        likely("none", x, -1, -1, UNKNOWN, UNKNOWN);
        likely("linked", x, 0, 0, 2, 7);
        likely("linked", x, 0, 1, 4, 7);
        x.ask(0, 0);
        likely("heard", x, 1, 0, 0, 1);
        likely("heard", x, 0, 1, 2, 5);
        likely("not heard", x, 2, 1, 4, 7);
        days(x, 3);
        likely("seen", x, 3, 1, 0, 1);
        ClockOnce pair = Check.townOf(PAIR);
        days(pair, 2);
        likely("ended", pair, 0, 0, 1, 1);
        likely("half ended", pair, 2, 1, 2, 5);
        ClockOnce unlikely = Check.townOf(UNLIKELY);
        likely("unlikely", unlikely, 0, 0, 0, 1);
        unlikely.ask(0, 0);
        likely("no parts", unlikely, 0, 1, STATE, STATE);
        likely("no parts, no thing", unlikely, 0, 2, UNKNOWN, UNKNOWN);
    }

    private void promise15Wise() {
        ClockOnce x = Check.townOf(PAIR);
        due("wise(3, 0)", x.wise(3, 0), UNKNOWN);
        due("wise(0, 2)", x.wise(0, 2), UNKNOWN);
        due("wise(-1, 0)", x.wise(-1, 0), UNKNOWN);
        due("wise(0, 0)", x.wise(0, 0), 5);
        due("wise(0, 1)", x.wise(0, 1), 2);
        x.ask(0, 0);
        due("heard wise(0, 0)", x.wise(0, 0), 1);
        due("heard wise(1, 0)", x.wise(1, 0), 1);
        due("not heard wise(2, 0)", x.wise(2, 0), 5);
        days(x, 2);
        due("ended wise(2, 0)", x.wise(2, 0), 2);
        due("from day 2 wise(2, 1)", x.wise(2, 1), 2);
        x.sell(1);
        due("sold wise(2, 1)", x.wise(2, 1), STATE);
        due("sold wise(2, 2)", x.wise(2, 2), UNKNOWN);
        days(x, 7);
        due("on day 9 wise(2, 0)", x.wise(2, 0), 9);
        // Late for sure: it gives 2 on day 1 and on day 2.
        due("of like ones the least", Check.townOf("CT12011A00").wise(0, 0), 1);
        // Early 8 times of 10: 1 coin on day 0, 2 on 1, 1 and 2 tenths on 2.
        due("by odds", Check.townOf("CT29811A00").wise(0, 0), 8);
        due("by odds, dearer", Check.townOf("CT29891A00").wise(0, 0), 1);
        ClockOnce unlikely = Check.townOf(UNLIKELY);
        unlikely.ask(0, 0);
        due("no parts wise(1, 1)", unlikely.wise(1, 1), STATE);
    }

    private void worth(String when, ClockOnce x, int set, int above, int below) {
        due(when + " worth(" + set + ", true)", x.worth(set, true), above);
        due(when + " worth(" + set + ", false)", x.worth(set, false), below);
    }

    private void promise16Worth() {
        ClockOnce x = Check.townOf(PAIR);
        worth("pair", x, 0, 15, 1);
        worth("pair", x, 1, 16, 1);
        worth("pair", x, 2, 81, 5);
        worth("pair", x, 3, 86, 5);
        worth("pair", x, 4, OUTSIDE, OUTSIDE);
        worth("pair", x, -1, OUTSIDE, OUTSIDE);
        worth("pair", x, LEAST, OUTSIDE, OUTSIDE);
        x.sell(1);
        worth("one sold", x, 0, 5, 1);
        worth("one sold", x, 1, 6, 1);
        worth("one sold", x, 2, 5, 1);
        x.undo();
        x.day();
        // From day 1 on there is a coin less of each.
        worth("on day 1", x, 0, 13, 1);
        x.day();
        // The first has ended; the second gives 8 on day 2, or 8 and 10 if it is known.
        worth("on day 2", x, 0, 8, 1);
        worth("on day 2", x, 2, 46, 5);
        ClockOnce linked = Check.townOf(LINKED);
        // The first to day 5: 2 by 20 parts, 8 by 50; the second to day 2: 10 by 70.
        worth("linked", linked, 0, 114, 7);
        // The first 4 by 20 parts, 8 by 50; the second, early for sure or by 20 parts of 50, 10 by 70.
        worth("linked", linked, 1, 118, 7);
        // The first 5 by 40 parts, 8 by 30; the second 10 by 40, 12 by 30.
        worth("linked", linked, 2, 120, 7);
        worth("linked", linked, 3, 124, 7);
        ClockOnce unlikely = Check.townOf(UNLIKELY);
        days(unlikely, 2);
        worth("no parts", unlikely, 0, STATE, STATE);
        worth("no parts", unlikely, 4, OUTSIDE, OUTSIDE);
        worth("no things", new ClockOnce(), 0, 0, 1);
        worth("no things", new ClockOnce(), 1, OUTSIDE, OUTSIDE);
    }

    private void promise17ToAsk() {
        ClockOnce x = Check.townOf(PAIR);
        due("toAsk()", x.toAsk(), 3);
        x.ask(1, 0);
        due("by two toAsk()", x.toAsk(), 3);
        x.ask(2, 1);
        due("by the first toAsk()", x.toAsk(), 1);
        x.ask(0, 0);
        due("by nobody toAsk()", x.toAsk(), 0);
        x.undo();
        days(x, 2);
        due("nothing new to know toAsk()", x.toAsk(), 0);
        // Both by one asker alone: the dearer knowledge.
        due("one asker toAsk()", Check.townOf("CT26530T35480A01").toAsk(), 2);
        // Alike: the least by bits.
        due("alike toAsk()", Check.townOf("CT26530T26530A01").toAsk(), 1);
        // 0 early makes 2 early, that 1: parts 96 and 64 (0 late) and 256 (2 late, too) and 64 (all late).
        // Both 0 and 1 known, or 2 alone: 8704 by 480 parts; fewer things come first.
        ClockOnce fewer = Check.townOf("CT67611T78821T13221A00A12L02L21");
        worth("fewer", fewer, 3, 272, 15);
        worth("fewer", fewer, 4, 272, 15);
        due("fewer toAsk()", fewer.toAsk(), 4);
        due("fewer by(0)", fewer.by(0), NONE);
        due("fewer by(1)", fewer.by(1), 2);
        // Early together: one tells of both.
        due("together toAsk()", Check.townOf("CT26530T26530A01A01L01L10").toAsk(), 1);
        ClockOnce unlikely = Check.townOf(UNLIKELY);
        days(unlikely, 2);
        due("no parts toAsk()", unlikely.toAsk(), STATE);
        due("nobody toAsk()", new ClockOnce().toAsk(), 0);
    }

    private void promise18By() {
        ClockOnce x = Check.townOf(PAIR);
        due("by(3)", x.by(3), UNKNOWN);
        due("by(-1)", x.by(-1), UNKNOWN);
        due("by(0)", x.by(0), 0);
        due("by(1)", x.by(1), 1);
        due("by(2)", x.by(2), NONE);
        x.ask(0, 0);
        due("asked by(0)", x.by(0), NONE);
        due("asked by(1)", x.by(1), 0);
        due("asked by(2)", x.by(2), 1);
        // The first leaves 0 to the second, who may ask of nothing else.
        ClockOnce leaving = Check.townOf("CT26530T35480A01A00");
        due("leaving by(0)", leaving.by(0), 1);
        due("leaving by(1)", leaving.by(1), 0);
        // The first is early in the order: it asks, the second of nothing.
        ClockOnce one = Check.townOf("CT26530A00A00");
        due("one thing by(0)", one.by(0), 0);
        due("one thing by(1)", one.by(1), NONE);
        ClockOnce unlikely = Check.townOf(UNLIKELY);
        days(unlikely, 2);
        due("no parts by(0)", unlikely.by(0), STATE);
        due("no parts by(2)", unlikely.by(2), UNKNOWN);
    }

    private void promise19Fewest() {
        due("none fewest()", new ClockOnce().fewest(), 0);
        ClockOnce x = Check.townOf(PAIR);
        due("fewest()", x.fewest(), 3);
        days(x, 2);
        due("on day 2 fewest()", x.fewest(), 2);
        days(x, 1);
        due("on day 3 fewest()", x.fewest(), 0);
        due("together fewest()", Check.townOf("CT26530T26530L01L10").fewest(), 1);
        due("linked fewest()", Check.townOf(LINKED).fewest(), 3);
        due("the last two together", Check.townOf("CT26530T26530T26530L12L21").fewest(), 3);
        ClockOnce unlikely = Check.townOf(UNLIKELY);
        days(unlikely, 2);
        due("no parts fewest()", unlikely.fewest(), 2);
    }

    private void share(String when, ClockOnce x, int asker, int above, int below) {
        due(when + " share(" + asker + ", true)", x.share(asker, true), above);
        due(when + " share(" + asker + ", false)", x.share(asker, false), below);
    }

    private void promise20Share() {
        ClockOnce x = Check.townOf(PAIR);
        share("none", x, 3, UNKNOWN, UNKNOWN);
        share("none", x, -1, UNKNOWN, UNKNOWN);
        // More than 15: 1 by the first alone, 1.2 by another alone, 2.2 by any two.
        share("three", x, 0, 2, 3);
        share("three", x, 1, 23, 30);
        share("three", x, 2, 23, 30);
        x.ask(1, 0);
        share("two", x, 0, 1, 1);
        share("asked", x, 1, 0, 1);
        share("two", x, 2, 6, 5);
        ClockOnce same = Check.townOf("CT26530A00A00A00A00");
        for (int asker = 0; asker < 4; asker++) {
            share("four alike", same, asker, 1, 4);
        }
        ClockOnce unlikely = Check.townOf(UNLIKELY);
        unlikely.ask(0, 0);
        days(unlikely, 2);
        share("no parts", unlikely, 1, STATE, STATE);
        share("no parts, asked", unlikely, 0, STATE, STATE);
        share("no parts", unlikely, 2, UNKNOWN, UNKNOWN);
    }

    private void promise21See() {
        ClockOnce x = Check.townOf(PAIR);
        due("see(2, 0)", x.see(2, 0), UNKNOWN);
        due("see(-1, 10)", x.see(-1, 10), UNKNOWN);
        due("see(0, 10)", x.see(0, 10), OUTSIDE);
        due("see(0, -1)", x.see(0, -1), OUTSIDE);
        due("refused see count(10)", x.count(10), 0);
        due("see(0, 0)", x.see(0, 0), 1);
        due("see(0, 9)", x.see(0, 9), 2);
        due("see(1, 2)", x.see(1, 2), 3);
        due("see(1, 2) again", x.see(1, 2), 4);
        x.see(1, 2);
        due("see, 6", x.see(1, 2), 6);
        due("see, 7", x.see(1, 2), FULL);
        due("see(0, 10), 7", x.see(0, 10), OUTSIDE);
        due("see(2, 0), 7", x.see(2, 0), UNKNOWN);
        due("full count(10)", x.count(10), 6);
    }

    private void promise22Unsee() {
        ClockOnce x = Check.townOf(PAIR);
        due("unsee() of none", x.unsee(), 0);
        x.see(0, 0);
        x.see(0, 9);
        due("seen which()", x.which(), 0);
        due("unsee()", x.unsee(), 2);
        due("unseen count(10)", x.count(10), 0);
        due("unseen which()", x.which(), 19);
        due("see anew", x.see(1, 2), 1);
    }

    private void promise23Which() {
        due("no things which()", new ClockOnce().which(), 16);
        ClockOnce x = Check.townOf(PAIR);
        due("nothing seen which()", x.which(), 19);
        x.see(0, 1);
        due("she knew of the first", x.which(), 1);
        x.see(0, 1);
        due("seen twice", x.which(), 1);
        x.see(0, 5);
        due("seen on two days", x.which(), 0);
        x.unsee();
        x.see(0, 5);
        due("she did not know of the first", x.which(), 18);
        x.unsee();
        x.see(1, 2);
        due("as known or not", x.which(), 19);
        x.unsee();
        x.see(0, 1);
        x.ask(0, 0);
        days(x, 9);
        x.sell(0);
        due("from day 0 on all the same", x.which(), 1);
        // Both early together: who knows of one knows of both; late in truth.
        ClockOnce together = Check.townOf("CT26531T26531L01L10");
        together.see(1, 5);
        due("together which()", together.which(), 19);
        due("true end of no parts", Check.townOf(UNLIKELY).which(), 18);
        // Things that are not there any more are not looked at.
        ClockOnce gone = Check.townOf(PAIR);
        gone.see(1, 9);
        due("wrong which()", gone.which(), 0);
        Check.write(gone, "CT26530");
        gone.town();
        due("gone which()", gone.which(), 17);
        Check.write(gone, PAIR);
        gone.town();
        due("back which()", gone.which(), 0);
    }

    private void promise24Judge() {
        ClockOnce x = Check.townOf(PAIR);
        int[][] outside = {{0, 0}, {9, 0}, {-1, 0}, {LEAST, 0}, {MOST, 0}, {1, -1}, {1, 10}, {2, 100}, {8, 100000000}, {8, MOST}, {8, LEAST}};
        for (int[] one : outside) {
            due("judge(" + one[0] + ", " + one[1] + ")", x.judge(one[0], one[1]), OUTSIDE);
        }
        due("judge(1, 4)", x.judge(1, 4), NONE);
        due("judge(1, 0)", x.judge(1, 0), NONE);
        due("judge(1, 2)", x.judge(1, 2), 0);
        due("judge(1, 5)", x.judge(1, 5), 0);
        due("judge(1, 9)", x.judge(1, 9), 0);
        due("judge(2, 0)", x.judge(2, 0), 1);
        due("judge(2, 1)", x.judge(2, 1), NONE);
        due("judge(2, 4)", x.judge(2, 4), NONE);
        due("judge(3, 400)", x.judge(3, 400), 2);
        due("judge(3, 440)", x.judge(3, 440), 2);
        due("judge(3, 441)", x.judge(3, 441), NONE);
        due("judge(4, 4441)", x.judge(4, 4441), 3);
        due("judge(8, 40414444)", x.judge(8, 40414444), NONE);
        due("judge(8, 40414443)", x.judge(8, 40414443), 7);
        due("judge(8, 99999999)", x.judge(8, 99999999), 0);
        counts("judged", x, 22, 2, 3, 0, 0, 0, 0, 0, 0, 0, 0);
        days(x, 2);
        due("on day 2 judge(1, 0)", x.judge(1, 0), 0);
        due("on day 2 judge(2, 41)", x.judge(2, 41), 1);
        due("on day 2 judge(8, 44444444)", x.judge(8, 44444444), 7);
        due("on day 2 judge(7, 4444444)", x.judge(7, 4444444), NONE);
        x.sell(1);
        due("sold judge(1, 1)", x.judge(1, 1), 0);
        days(x, 7);
        due("on day 9 judge(1, 4)", x.judge(1, 4), 0);
    }

    private void promise25Seed() {
        ClockOnce x = new ClockOnce();
        due("seed(MIN)", x.seed(Long.MIN_VALUE), 0);
        due("seed(MAX)", x.seed(Long.MAX_VALUE), Long.MIN_VALUE);
        due("seed(-5)", x.seed(-5), Long.MAX_VALUE);
        x.year(3);
        due("no things draw nothing", x.seed(0), -5);
        ClockOnce one = Check.townOf("CT26530");
        one.year(1);
        due("one step from 0", one.seed(0), 1442695040888963407L);
        one.year(2);
        due("two steps from 0", one.seed(0), 1442695040888963407L * 6364136223846793005L + 1442695040888963407L);
    }

    private void promise26Year() {
        due("no things year(1)", new ClockOnce().year(1), 0);
        ClockOnce x = Check.townOf(PAIR);
        for (int m : new int[] {0, 31, -1, LEAST, MOST}) {
            due("year(" + m + ")", x.year(m), OUTSIDE);
        }
        due("refused year: seed(0)", x.seed(0), 0);
        // From 0: its upper 31 bits are 167951807, by 10 there is left 7: late by 5 tenths; kept to day 5: 8.
        ClockOnce late = Check.townOf("CT26530");
        due("late year(1)", late.year(1), 8);
        due("late, by as many tenths", Check.townOf("CT26710").year(1), 6);
        // The same draw by 9 tenths is early, and its wise day is 1 as it is dear: 1 coin and 3.
        due("early year(1)", Check.townOf("CT26930").year(1), 4);
        // Kept to day 8, which gives 2.7 in the mean, but early: 2 coins, none for it.
        due("early, kept too long", Check.townOf("CT29911").year(1), 2);
        // What is sold, asked or ended now is not looked at.
        days(late, 9);
        late.sell(0);
        late.seed(0);
        due("on day 9 year(1)", late.year(1), 8);
        counts("after year", late, 7, 1, 0, 0, 9, 2, 1, 1, 0, 10, 0);
        yearByLinks();
        // Never early: 8 each time.
        due("year(30)", Check.townOf("CT26030").year(30), 240);
    }

    private void yearByLinks() {
        // 0 is drawn early (7 is less than 9), the others never are; the links make 1 early, then 2.
        String things = "CT26910T26010T26010";
        ClockOnce free = Check.townOf(things);
        ClockOnce linked = Check.townOf(things + "L12L01");
        // Free, all are kept to day 5: 2 by 0, which is early, 6 by each other.
        due("free year(1)", free.year(1), 2 + 6 + 6);
        // Linked, no world with 0 early has parts: all are kept to day 5, and all are early.
        due("linked year(1)", linked.year(1), 2 + 2 + 2);
    }

    private void promise27Keep() {
        ClockOnce x = Check.townOf(PAIR);
        due("keep(2)", x.keep(2), UNKNOWN);
        due("keep(-1)", x.keep(-1), UNKNOWN);
        due("keep(0)", x.keep(0), 0);
        x.day();
        due("keep(1)", x.keep(1), 2);
        due("kept count(9)", x.count(9), 1);
        x.sell(1);
        due("keep(0) anew", x.keep(0), 10);
        due("again(1)", x.again(1), 2);
        due("again(0)", x.again(0), 10);
    }

    private void promise28Again() {
        ClockOnce x = Check.townOf(PAIR);
        due("again(2)", x.again(2), UNKNOWN);
        due("again(-1)", x.again(-1), UNKNOWN);
        due("again(0) of none", x.again(0), STATE);
        x.ask(1, 1);
        x.day();
        x.sell(0);
        x.keep(0);
        due("again(1) of none", x.again(1), STATE);
        due("refused again count(9)", x.count(9), 3);
        x.ask(0, 0);
        days(x, 2);
        x.sell(1);
        due("again(0)", x.again(0), 5);
        counts("again", x, 22, 2, 3, 0, 1, 5, 1, 0, 2, 0, 0);
        due("again thing(0, 4)", x.thing(0, 4), 1);
        due("again thing(1, 4)", x.thing(1, 4), NONE);
        due("again asker(0, 2)", x.asker(0, 2), NONE);
        due("again asker(1, 2)", x.asker(1, 2), 1);
        due("again undo()", x.undo(), STATE);
        x.day();
        due("again(0) twice", x.again(0), 5);
        due("again count(4)", x.count(4), 1);
    }

    private void promise29Count() {
        ClockOnce x = Check.townOf(LINKED);
        x.ask(0, 0);
        x.ask(1, 1);
        days(x, 5);
        x.sell(0);
        x.see(0, 0);
        x.write('X');
        counts("all", x, 29, 2, 4, 1, 5, 13, 1, 2, 3, 8, 1);
        due("count(11)", x.count(11), OUTSIDE);
        due("count(-1)", x.count(-1), OUTSIDE);
        due("count(MOST)", x.count(MOST), OUTSIDE);
    }
}
