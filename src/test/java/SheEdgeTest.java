import java.math.BigInteger;

/** SHE, told years, years by a seed, slots, counts: the promises 21 to 29 at their limits, and an object's 512 calls. */
final class SheEdgeTest {
    private static final int UNKNOWN = -1, OUTSIDE = -2, STATE = -3, FULL = -4, NONE = -9;
    private static final long FACTOR = 6364136223846793005L, STEP = 1442695040888963407L;

    // Ends on day 1 (in truth) or 5, worth 5: sold on day 0 it gives 5, on day 4 it gives 1 or 9, 5.8 in the mean by
    // 4 tenths: so it is sold on day 4, but on day 0 by one who knows its end.
    private static final String LATER = "T15450";
    // By 5 tenths both days are alike: it is sold on day 0, but, late in truth, on day 4 by one who knows its end.
    private static final String EVEN_LATE = "T15551";
    // Worth 1, it is kept to day 8 by any tenths: it gives 1 if it is early, on day 1, and 9 if it is late, on day 9.
    private static final String[] DRAWN = {"T19010", "T19110", "T19210", "T19310", "T19410", "T19510", "T19610", "T19710",
        "T19810", "T19910"};

    private final Check check = new Check("SheEdgeTest");

    public static void main(String[] args) {
        SheEdgeTest test = new SheEdgeTest();
        test.seenOnDays0To9();
        test.atMost6Seen();
        test.unseen();
        test.whichOfNothingSeen();
        test.whichByWhatSheSold();
        test.whichOfNone();
        test.whichByWhatTellsOfAnother();
        test.whichOfThingsThatAreNot();
        test.whichOfNoParts();
        test.whichFromDay0On();
        test.judgedFrom1To8();
        test.judgedFigures();
        test.judgedDaysTo9();
        test.judgedSoldForNone();
        test.judgedFromNowOn();
        test.seedIsAnyLong();
        test.yearFrom1To30Times();
        test.yearEarlyIfLeftIsLess();
        test.yearByUpper31Bits();
        test.yearWraps();
        test.yearOneByOneByNumber();
        test.yearByLinks();
        test.yearFromDay0On();
        test.slots0To1();
        test.againAsKept();
        test.notKept();
        test.countsFrom0To10();
        test.used512Times();
        test.eachObjectForItself();
        test.check.end();
    }

    private void due(String call, long got, long want) {
        check.due(call, got, want);
    }

    private static void days(ClockOnce x, int n) {
        for (int i = 0; i < n; i++) {
            x.day();
        }
    }

    private static ClockOnce seen(String town, int... sold) {
        ClockOnce x = Check.townOf(town);
        for (int i = 0; i < sold.length; i += 2) {
            x.see(sold[i], sold[i + 1]);
        }
        return x;
    }

    private void seenOnDays0To9() {
        for (int day = 0; day <= 9; day++) {
            due("see(0, " + day + ")", Check.townOf("C" + LATER).see(0, day), 1);
        }
        ClockOnce x = Check.townOf("C" + LATER);
        due("see(0, -1)", x.see(0, -1), OUTSIDE);
        due("see(0, 10)", x.see(0, 10), OUTSIDE);
        due("see(1, 0)", x.see(1, 0), UNKNOWN);
        due("see(1, 10)", x.see(1, 10), UNKNOWN);
        due("none seen: count(10)", x.count(10), 0);
        due("no such thing: see(0, 0)", new ClockOnce().see(0, 0), UNKNOWN);
    }

    private void atMost6Seen() {
        ClockOnce x = Check.townOf("C" + LATER);
        due("none at first: count(10)", x.count(10), 0);
        for (int i = 1; i <= 6; i++) {
            due("6 at most: see(0, 4)", x.see(0, 4), i);
        }
        due("6 at most: see(0, 0)", x.see(0, 0), FULL);
        due("what is refused is not seen: which()", x.which(), 16);
        due("6 at most: count(10)", x.count(10), 6);
    }

    private void unseen() {
        ClockOnce x = seen("C" + LATER, 0, 4, 0, 0, 0, 1);
        due("unsee()", x.unsee(), 3);
        due("unsee() again", x.unsee(), 0);
        due("unseen: which()", x.which(), 17);
        for (int i = 1; i <= 6; i++) {
            due("room anew: see(0, 0)", x.see(0, 0), i);
        }
        due("unsee() of 6", x.unsee(), 6);
    }

    private void whichOfNothingSeen() {
        for (int n = 0; n <= 4; n++) {
            due("nothing seen of " + n, Check.townOf("C" + LATER.repeat(n)).which(), 16 + (1 << n) - 1);
        }
    }

    private void whichByWhatSheSold() {
        int[] can = {1, 0, 0, 0, 16, 0, 0, 0, 0, 0};
        int[] canOfLate = {16, 0, 0, 0, 1, 0, 0, 0, 0, 0};
        for (int day = 0; day <= 9; day++) {
            due("early, sold on " + day, seen("C" + LATER, 0, day).which(), can[day]);
            due("late, sold on " + day, seen("C" + EVEN_LATE, 0, day).which(), canOfLate[day]);
        }
        due("all that is seen is so", seen("C" + LATER, 0, 0, 0, 4).which(), 0);
        due("the last of 6 is looked at", seen("C" + LATER, 0, 0, 0, 0, 0, 0, 0, 0, 0, 0, 0, 4).which(), 0);
        due("the first of 6 is looked at", seen("C" + LATER, 0, 4, 0, 0, 0, 0, 0, 0, 0, 0, 0, 0).which(), 0);
    }

    private void whichOfNone() {
        // Bit 4, or the other one alone: the first was not sold by its end.
        due("not of the first", seen("C" + LATER + LATER, 0, 4).which(), 18);
        due("of the first", seen("C" + LATER + LATER, 0, 0).which(), 1);
        due("of neither", seen("C" + LATER + LATER, 0, 4, 1, 4).which(), 16);
        due("of one alone", seen("C" + LATER + LATER, 0, 0, 1, 0).which(), 0);
        due("of the last", seen("C" + LATER.repeat(4), 3, 0).which(), 8);
    }

    private void whichByWhatTellsOfAnother() {
        due("either tells of both", seen("C" + LATER + LATER + "L01L10", 0, 0, 1, 0).which(), 3);
        // The first early makes the second early: 16 parts both, 24 the second alone, 36 neither. The second is early
        // by 40 of 76 parts, so that it is sold on day 0 by all; the first by 16 of 76, or by 16 of 40 if the second is.
        due("one way, the second", seen("C" + LATER + LATER + "L01", 1, 0).which(), 19);
        due("one way, the first", seen("C" + LATER + LATER + "L01", 0, 4).which(), 18);
    }

    private void whichOfThingsThatAreNot() {
        ClockOnce x = seen("C" + LATER + LATER, 0, 0, 1, 9);
        due("both looked at: which()", x.which(), 0);
        Check.write(x, "C" + LATER);
        x.town();
        due("the second is not any more: which()", x.which(), 1);
        due("still seen: count(10)", x.count(10), 2);
        Check.write(x, "C");
        x.town();
        due("neither is any more: which()", x.which(), 16);
        Check.write(x, "C" + LATER + LATER);
        x.town();
        due("both are again: which()", x.which(), 0);
    }

    private void whichOfNoParts() {
        due("by its true end no world has parts", Check.townOf("CT15050").which(), 16);
        due("of the other one or none", Check.townOf("CT15050" + LATER).which(), 18);
        // The first, early, would make the second early, which it never is.
        due("by a link no world has parts", Check.townOf("CT15550T15050L01").which(), 16);
        due("late in truth by 0 tenths", Check.townOf("CT15051").which(), 17);
    }

    private void whichFromDay0On() {
        ClockOnce x = seen("C" + LATER + "A00", 0, 0);
        x.ask(0, 0);
        x.sell(0);
        days(x, 9);
        due("whatever was asked, sold, ended: which()", x.which(), 1);
        // That the second ended on day 1 she did not know on day 0.
        ClockOnce both = seen("C" + LATER + LATER, 0, 0, 1, 4);
        due("on day 0: which()", both.which(), 1);
        days(both, 9);
        due("on day 9: which()", both.which(), 1);
    }

    private void judgedFrom1To8() {
        ClockOnce x = new ClockOnce();
        int most = 1;
        for (int n = 1; n <= 8; n++) {
            most *= 10;
            due("judge(" + n + ", 0)", x.judge(n, 0), 0);
            due("judge(" + n + ", most)", x.judge(n, most - 1), 0);
            due("judge(" + n + ", all days)", x.judge(n, (most - 1) / 9 * 4), NONE);
            due("judge(" + n + ", one figure more)", x.judge(n, most), OUTSIDE);
            due("judge(" + n + ", -1)", x.judge(n, -1), OUTSIDE);
        }
        due("judge(0, 0)", x.judge(0, 0), OUTSIDE);
        due("judge(9, 0)", x.judge(9, 0), OUTSIDE);
        due("judge(9, 444444444)", x.judge(9, 444444444), OUTSIDE);
        due("judge(10, 0)", x.judge(10, 0), OUTSIDE);
        due("judge(-1, 0)", x.judge(-1, 0), OUTSIDE);
    }

    private void judgedFigures() {
        for (int n = 0; n <= 4; n++) {
            ClockOnce x = Check.townOf("C" + LATER.repeat(n));
            for (int figure = 0; figure <= 9; figure++) {
                boolean can = figure < n || figure == 4;
                due("of " + n + " things judge(1, " + figure + ")", x.judge(1, figure), can ? NONE : 0);
            }
        }
        ClockOnce x = Check.townOf("C" + LATER.repeat(4));
        due("all four: judge(4, 3210)", x.judge(4, 3210), NONE);
        due("zeros ahead: judge(4, 123)", x.judge(4, 123), NONE);
        due("the first that can not be: judge(8, 12312399)", x.judge(8, 12312399), 3);
        due("sold twice: judge(2, 0)", x.judge(2, 0), 1);
        due("sold twice, with others between: judge(5, 31203)", x.judge(5, 31203), 4);
    }

    private void judgedDaysTo9() {
        ClockOnce x = new ClockOnce();
        for (int day = 0; day <= 9; day++) {
            due("from day " + day + " judge(8, 44444444)", x.judge(8, 44444444), day < 2 ? NONE : 9 - day);
            due("from day " + day + " judge(1, 4)", x.judge(1, 4), day < 9 ? NONE : 0);
            x.day();
        }
    }

    private void judgedSoldForNone() {
        // The first ends on day 1, the second on day 5.
        ClockOnce x = Check.townOf("C" + LATER + EVEN_LATE);
        due("ahead of its end: judge(1, 0)", x.judge(1, 0), NONE);
        due("on its end: judge(2, 40)", x.judge(2, 40), 1);
        due("behind its end: judge(3, 440)", x.judge(3, 440), 2);
        due("ahead of its end: judge(5, 44441)", x.judge(5, 44441), NONE);
        due("on its end: judge(6, 444441)", x.judge(6, 444441), 5);
        due("of two the first: judge(4, 4401)", x.judge(4, 4401), 2);
        due("not sold at all: judge(8, 44444444)", x.judge(8, 44444444), NONE);
    }

    private void judgedFromNowOn() {
        ClockOnce x = Check.townOf("C" + LATER + EVEN_LATE);
        x.sell(0);
        due("sold now: judge(1, 0)", x.judge(1, 0), 0);
        days(x, 4);
        due("on day 4: judge(1, 1)", x.judge(1, 1), NONE);
        due("on day 4: judge(2, 41)", x.judge(2, 41), 1);
        due("on day 4, sold, then a day: judge(2, 14)", x.judge(2, 14), NONE);
        due("on day 4: judge(6, 144444)", x.judge(6, 144444), NONE);
        due("on day 4: judge(7, 1444444)", x.judge(7, 1444444), 6);
        due("judged twice alike: judge(1, 1)", x.judge(1, 1), NONE);
        due("nothing is changed: count(4)", x.count(4), 4);
        due("nothing is changed: count(6)", x.count(6), 1);
    }

    private void seedIsAnyLong() {
        ClockOnce x = new ClockOnce();
        long was = 0;
        for (long v : new long[] {1, -1, Long.MIN_VALUE, Long.MAX_VALUE, 1L << 32, 0, 7}) {
            due("what it was: seed(" + v + ")", x.seed(v), was);
            was = v;
        }
    }

    private void yearFrom1To30Times() {
        ClockOnce x = Check.townOf("C" + DRAWN[0]);
        due("year(0)", x.year(0), OUTSIDE);
        due("year(31)", x.year(31), OUTSIDE);
        due("refused: seed(0)", x.seed(0), 0);
        due("never early: year(1)", x.year(1), 9);
        due("one draw", x.seed(0), STEP);
        due("never early: year(30)", x.year(30), 270);
        due("30 draws", x.seed(0), stepped(0, 30));
        ClockOnce none = new ClockOnce();
        none.seed(5);
        due("no things: year(30)", none.year(30), 0);
        due("no draws", none.seed(0), 5);
        ClockOnce four = Check.townOf("C" + DRAWN[0].repeat(4));
        due("four: year(30)", four.year(30), 1080);
        due("120 draws", four.seed(0), stepped(0, 120));
    }

    /** The seed after some draws, reckoned without wrapping and cut in the end. */
    private static long stepped(long seed, int draws) {
        BigInteger x = BigInteger.valueOf(seed);
        for (int i = 0; i < draws; i++) {
            x = x.multiply(BigInteger.valueOf(FACTOR)).add(BigInteger.valueOf(STEP));
        }
        return x.longValue();
    }

    /** The seed that becomes the wanted one by one draw. */
    private static long ahead(long wanted) {
        BigInteger all = BigInteger.ONE.shiftLeft(64);
        return BigInteger.valueOf(wanted).subtract(BigInteger.valueOf(STEP))
            .multiply(BigInteger.valueOf(FACTOR).modInverse(all)).longValue();
    }

    private void drawn(String when, int tenths, long wanted, boolean isEarly) {
        ClockOnce x = Check.townOf("C" + DRAWN[tenths]);
        x.seed(ahead(wanted));
        due(when + " by " + tenths + " tenths: year(1)", x.year(1), isEarly ? 1 : 9);
        due(when + ": the seed", x.seed(0), wanted);
    }

    private void yearEarlyIfLeftIsLess() {
        for (int left = 0; left <= 9; left++) {
            for (int tenths = 0; tenths <= 9; tenths++) {
                drawn("left " + left, tenths, (long) (770 + left) << 33, left < tenths);
            }
        }
    }

    private void yearByUpper31Bits() {
        // All bits: 2147483647, left 7; the highest bit alone: 1073741824, left 4; 0, and 9 with the bits below: left 0, 9.
        long most = (1L << 31) - 1;
        drawn("all bits", 8, -1L, true);
        drawn("all bits", 7, -1L, false);
        drawn("all upper bits", 8, most << 33, true);
        drawn("all upper bits", 7, most << 33, false);
        drawn("the highest bit", 5, Long.MIN_VALUE, true);
        drawn("the highest bit", 4, Long.MIN_VALUE, false);
        drawn("no bit", 1, 0, true);
        drawn("no bit", 0, 0, false);
        drawn("all bits below", 1, (1L << 33) - 1, true);
        drawn("the lowest of them", 1, 1L << 33, false);
        drawn("the lowest of them", 2, 1L << 33, true);
    }

    private void yearWraps() {
        for (long seed : new long[] {Long.MIN_VALUE, Long.MAX_VALUE, -1, 1}) {
            ClockOnce x = Check.townOf("C" + DRAWN[5]);
            x.seed(seed);
            int coins = 0;
            for (int i = 1; i <= 30; i++) {
                coins += (stepped(seed, i) >>> 33) % 10 < 5 ? 1 : 9;
            }
            due("from " + seed + " year(30)", x.year(30), coins);
            due("from " + seed + " after 30 draws", x.seed(0), stepped(seed, 30));
        }
    }

    private void yearOneByOneByNumber() {
        // The first draw leaves 9: late; the second what comes of that.
        long first = 9L << 33;
        long left = (stepped(first, 1) >>> 33) % 10;
        ClockOnce x = Check.townOf("C" + DRAWN[9] + DRAWN[(int) left] + DRAWN[(int) left + 1]);
        x.seed(ahead(first));
        boolean isThirdEarly = (stepped(first, 2) >>> 33) % 10 < left + 1;
        due("one by one: year(1)", x.year(1), 9 + 9 + (isThirdEarly ? 1 : 9));
        due("three draws", x.seed(0), stepped(first, 2));
    }

    private void yearByLinks() {
        // Only the first can be early, and is drawn so; no world has it early if it is linked, so all are kept to day 8.
        String things = "C" + DRAWN[1] + DRAWN[0].repeat(3);
        int[] coins = {1 + 9 + 9 + 9, 1 + 1 + 9 + 9, 4, 4, 4};
        String[] links = {"", "L01", "L01L12L23", "L23L12L01", "L01L02L03"};
        for (int i = 0; i < links.length; i++) {
            ClockOnce x = Check.townOf(things + links[i]);
            x.seed(ahead(0));
            due("as long as a link does not hold: year(1) " + links[i], x.year(1), coins[i]);
            due("four draws " + links[i], x.seed(0), stepped(0, 3));
        }
        ClockOnce back = Check.townOf(things + "L10L20L30");
        back.seed(ahead(0));
        due("from late to early: year(1)", back.year(1), 1 + 9 + 9 + 9);
        ClockOnce ring = Check.townOf(things + "L01L10");
        ring.seed(ahead(0));
        due("both ways: year(1)", ring.year(1), 1 + 1 + 9 + 9);
    }

    private void yearFromDay0On() {
        ClockOnce x = Check.townOf("C" + DRAWN[0] + "A00");
        x.ask(0, 0);
        x.sell(0);
        days(x, 9);
        due("whatever was asked, sold, ended: year(1)", x.year(1), 9);
        due("no coins come by it: count(5)", x.count(5), 1);
        due("no act: count(9)", x.count(9), 11);
        // Its wise day is 0 by all worlds: 5, early or late.
        ClockOnce sooner = Check.townOf("CT15650");
        due("kept to the wise day by all worlds: year(30)", sooner.year(30), 150);
    }

    private void slots0To1() {
        ClockOnce x = States.busy();
        due("keep(-1)", x.keep(-1), UNKNOWN);
        due("keep(2)", x.keep(2), UNKNOWN);
        due("again(-1)", x.again(-1), UNKNOWN);
        due("again(2)", x.again(2), UNKNOWN);
        due("each for itself: again(0)", x.again(0), 10);
        due("each for itself: again(1)", x.again(1), 11);
        due("kept over: keep(0)", x.keep(0), 11);
        due("kept over: again(0)", x.again(0), 11);
        ClockOnce one = States.oneKept();
        due("none were kept: again(0)", one.again(0), STATE);
        due("the other one: again(1)", one.again(1), 2);
        ClockOnce none = new ClockOnce();
        due("no coins: keep(0)", none.keep(0), 0);
        due("no coins: again(0)", none.again(0), 0);
        due("none were kept: again(1)", none.again(1), STATE);
    }

    private void againAsKept() {
        ClockOnce x = States.oneKept();
        due("the row stays when kept: count(9)", x.count(9), 2);
        x.ask(1, 1);
        days(x, 8);
        due("again(1)", x.again(1), 2);
        due("again: the day", x.count(4), 1);
        due("again: coins", x.count(5), 2);
        due("again: what was sold", x.count(6), 0);
        due("again: what has ended", x.count(7), 0);
        due("again: what was asked", x.count(8), 0);
        due("again: the row is empty", x.count(9), 0);
        due("again: undo()", x.undo(), STATE);
        due("again: on which day it was sold", x.thing(0, 4), NONE);
        x.sell(1);
        due("an act since: undo()", x.undo(), 0);
        x.sell(1);
        due("not changed by what came since: again(1)", x.again(1), 2);
        due("not changed by what came since: count(6)", x.count(6), 0);
        ClockOnce y = States.lastDay();
        y.keep(0);
        for (int i = 0; i < 14; i++) {
            y.undo();
        }
        y.again(0);
        due("the last day: count(4)", y.count(4), 9);
        due("all sold: count(6)", y.count(6), 3);
        due("all asked: count(8)", y.count(8), 3);
        due("sold on day 9: thing(1, 4)", y.thing(1, 4), 9);
        due("asked of the first: asker(1, 2)", y.asker(1, 2), 0);
    }

    private void notKept() {
        ClockOnce x = Check.townOf("C" + LATER);
        x.see(0, 4);
        x.seed(3);
        x.keep(0);
        x.unsee();
        x.seed(4);
        x.write('X');
        x.again(0);
        due("what is seen is not kept: count(10)", x.count(10), 0);
        due("the text is not kept: count(0)", x.count(0), 8);
        due("the seed is not kept: seed(0)", x.seed(0), 4);
    }

    private void countsFrom0To10() {
        ClockOnce x = States.lastDay();
        int[] counts = {22, 2, 3, 0, 9, 5, 3, 3, 3, 14, 0};
        for (int what = 0; what <= 10; what++) {
            due("last day: count(" + what + ")", x.count(what), counts[what]);
        }
        due("count(-1)", x.count(-1), OUTSIDE);
        due("count(11)", x.count(11), OUTSIDE);
        ClockOnce most = Check.townOf("C" + LATER.repeat(4) + "A03A03A03A03L01L12L23");
        for (int one = 0; one < 4; one++) {
            most.ask(one, one);
            most.sell(one);
        }
        int[] counts2 = {46, 4, 4, 3, 0, 20, 15, 0, 15, 8, 0};
        for (int what = 0; what <= 10; what++) {
            due("all: count(" + what + ")", most.count(what), counts2[what]);
        }
    }

    private void used512Times() {
        ClockOnce x = new ClockOnce();
        for (int i = 1; i <= 510; i++) {
            due("call " + i, i % 2 == 1 ? x.day() : x.undo(), 0);
        }
        due("call 511", x.day(), 0);
        due("call 512", x.count(4), 1);
        // A town by 10 letters, then acts, of which all but 16 are forgotten, and slots, up to the last call.
        ClockOnce y = Check.townOf("CT89191A00");
        int calls = 12;
        while (calls + 11 <= 510) {
            y.keep(calls % 2);
            days(y, 9);
            due("nine days and on: again, call " + calls, y.again(calls % 2), 0);
            calls += 11;
        }
        due("near the last: day()", y.day(), 1);
        due("at the last: ask(0, 0)", y.ask(0, 0), 9);
    }

    private void eachObjectForItself() {
        ClockOnce x = States.busy();
        ClockOnce y = new ClockOnce();
        due("another object: count(0)", y.count(0), 0);
        due("another object: count(10)", y.count(10), 0);
        due("another object: seed(1)", y.seed(1), 0);
        due("another object: again(0)", y.again(0), STATE);
        due("the first object: seed(0)", x.seed(0), 77);
        due("the first object: again(0)", x.again(0), 10);
    }
}
