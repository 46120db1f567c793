/** WORTH, TO ASK, BY, FEWEST, SHARE: the promises 16 to 20 at their limits. */
final class AskEdgeTest {
    private static final int UNKNOWN = -1, OUTSIDE = -2, STATE = -3, NONE = -9;

    // Ends on day 1 or 5, worth 5: sold on day 0 it gives 5 for sure, on day 4 it gives 1 or 9. By 5 tenths that is
    // 5 in the mean, by 4 tenths 5.8. Known ahead it gives 5 or 9: by 5 tenths 7 (2 more), by 4 tenths 7.4 (1.6 more).
    private static final String EVEN = "T15550";
    private static final String LATER = "T15450";
    // Never early by its tenths, but in truth: it gives 9, known or not.
    private static final String NEVER = "T15050";

    private final Check check = new Check("AskEdgeTest");

    public static void main(String[] args) {
        AskEdgeTest test = new AskEdgeTest();
        test.worthOfSetsThereAre();
        test.worthInLeastTerms();
        test.worthOfWhatIsNotSold();
        test.worthByLinks();
        test.worthFromTheDayOn();
        test.worthOfNoParts();
        test.toAskByThoseWhoDidNot();
        test.toAskEachOfOneAtMost();
        test.toAskMostWorth();
        test.toAskFewestThings();
        test.toAskLeastByBits();
        test.toAskOfWhatGivesNone();
        test.byLeastThingItCan();
        test.byOneThatAsksOfNothingLast();
        test.byThoseWhoDidNotAskYet();
        test.askedOfNoParts();
        test.fewestOfOneWorld();
        test.fewestLeastByBits();
        test.fewestOfNoPartsToo();
        test.fewestByDay();
        test.shareOfOneThatAsked();
        test.shareOfThoseAlike();
        test.shareInEachOrder();
        test.shareOfNothingFound();
        test.check.end();
    }

    private void due(String call, long got, long want) {
        check.due(call, got, want);
    }

    private static void days(ClockOnce x, int n) {
        for (int i = 0; i < n; i++) {
            x.day();
        }
    }

    private void worth(String when, ClockOnce x, int set, int above, int below) {
        due(when + ": worth(" + set + ", true)", x.worth(set, true), above);
        due(when + ": worth(" + set + ", false)", x.worth(set, false), below);
    }

    private void worthOfSetsThereAre() {
        for (int n = 0; n <= 4; n++) {
            ClockOnce x = Check.townOf("C" + EVEN.repeat(n));
            for (int set = 0; set < 1 << n; set++) {
                worth(n + " things", x, set, 5 * n + 2 * Integer.bitCount(set), 1);
            }
            worth(n + " things", x, 1 << n, OUTSIDE, OUTSIDE);
            worth(n + " things", x, -1, OUTSIDE, OUTSIDE);
            worth(n + " things", x, Integer.MIN_VALUE, OUTSIDE, OUTSIDE);
        }
    }

    private void worthInLeastTerms() {
        ClockOnce x = Check.townOf("C" + LATER);
        worth("58 of 10", x, 0, 29, 5);
        worth("74 of 10", x, 1, 37, 5);
        ClockOnce both = Check.townOf("C" + LATER + EVEN);
        worth("5.8 and 5", both, 0, 54, 5);
        worth("7.4 and 7", both, 3, 72, 5);
        // Early by 9 tenths: 5 for sure; known ahead 5 by 9 tenths, 9 by 1.
        ClockOnce mostly = Check.townOf("CT15950");
        worth("50 of 10", mostly, 0, 5, 1);
        worth("54 of 10", mostly, 1, 27, 5);
    }

    private void worthOfWhatIsNotSold() {
        ClockOnce x = Check.townOf("C" + EVEN + EVEN);
        x.sell(0);
        worth("the first sold", x, 0, 5, 1);
        worth("the first sold", x, 1, 5, 1);
        worth("the first sold", x, 2, 7, 1);
        worth("the first sold", x, 3, 7, 1);
        x.sell(1);
        worth("all sold", x, 0, 0, 1);
        worth("all sold", x, 3, 0, 1);
        x.undo();
        worth("undone", x, 3, 7, 1);
    }

    private void worthByLinks() {
        ClockOnce x = Check.townOf("C" + EVEN + EVEN + "L01L10");
        worth("both ways", x, 0, 10, 1);
        worth("both ways", x, 1, 14, 1);
        worth("both ways", x, 2, 14, 1);
        worth("both ways", x, 3, 14, 1);
        x.sell(0);
        worth("what is sold tells of the other", x, 1, 7, 1);
    }

    private void worthFromTheDayOn() {
        // Not ended on day 1, it is late: from there to day 4 a coin each, then 5.
        ClockOnce late = Check.townOf("CT15551");
        int[] left = {5, 8, 7, 6, 5, 0, 0, 0, 0, 0};
        ClockOnce early = Check.townOf("C" + EVEN);
        for (int day = 0; day <= 9; day++) {
            worth("late, day " + day, late, 0, left[day], 1);
            worth("late, day " + day, late, 1, day == 0 ? 7 : left[day], 1);
            worth("early, day " + day, early, 0, day == 0 ? 5 : 0, 1);
            worth("early, day " + day, early, 1, day == 0 ? 7 : 0, 1);
            late.day();
            early.day();
        }
    }

    private void worthOfNoParts() {
        ClockOnce x = Check.townOf("C" + NEVER + EVEN);
        worth("not seen yet", x, 0, 14, 1);
        worth("known as it can be", x, 1, 14, 1);
        x.day();
        worth("seen", x, 0, STATE, STATE);
        worth("seen", x, 3, STATE, STATE);
        worth("seen, OUTSIDE first", x, 4, OUTSIDE, OUTSIDE);
        x.undo();
        worth("undone", x, 2, 16, 1);
    }

    private void toAsk(String when, String town, int want) {
        due(when + ": toAsk() of " + town, Check.townOf(town).toAsk(), want);
    }

    private void toAskByThoseWhoDidNot() {
        toAsk("no things, nobody", "C", 0);
        toAsk("nobody", "C" + EVEN, 0);
        toAsk("one", "C" + EVEN + "A00", 1);
        ClockOnce x = Check.townOf("C" + EVEN + EVEN + "A00A11");
        due("both: toAsk()", x.toAsk(), 3);
        x.ask(0, 0);
        due("one asked: toAsk()", x.toAsk(), 2);
        x.ask(1, 1);
        due("both asked: toAsk()", x.toAsk(), 0);
        x.undo();
        due("one undone: toAsk()", x.toAsk(), 2);
    }

    private void toAskEachOfOneAtMost() {
        for (int askers = 0; askers <= 4; askers++) {
            toAsk("of four things", "C" + EVEN.repeat(4) + "A03".repeat(askers), (1 << askers) - 1);
        }
        toAsk("two that may ask of one alone", "C" + EVEN + EVEN + "A00A00", 1);
        toAsk("what they may ask of", "C" + EVEN + EVEN + "A11", 2);
        toAsk("in between", "C" + EVEN.repeat(4) + "A12A12A12", 6);
    }

    private void toAskMostWorth() {
        toAsk("the first finds more", "C" + EVEN + LATER + "A01", 1);
        toAsk("the second finds more", "C" + LATER + EVEN + "A01", 2);
        toAsk("the last finds more", "C" + LATER + LATER + LATER + EVEN + "A03", 8);
        toAsk("more that it may not ask of", "C" + LATER + EVEN + "A00", 1);
    }

    private void toAskFewestThings() {
        toAsk("nothing to find", "C" + NEVER + "A00", 0);
        toAsk("nothing to find by the second", "C" + EVEN + NEVER + "A01A01", 1);
        toAsk("one tells of both", "C" + EVEN + EVEN + "L01L10A01A01", 1);
        // The first early makes the third early, that the second; the first two tell as much as the third alone.
        ClockOnce x = Check.townOf("CT67611T78821T13221A00A12L02L21");
        worth("two", x, 3, 272, 15);
        worth("one, of more bits", x, 4, 272, 15);
        due("fewest ahead of least by bits: toAsk()", x.toAsk(), 4);
    }

    private void toAskLeastByBits() {
        toAsk("all alike", "C" + EVEN.repeat(4) + "A03", 1);
        toAsk("all alike, from the second on", "C" + EVEN.repeat(4) + "A13", 2);
        toAsk("two of three alike", "C" + EVEN.repeat(3) + "A02A02", 3);
        toAsk("the first, or the last, with the second", "C" + EVEN.repeat(3) + "A02A11", 3);
    }

    private void toAskOfWhatGivesNone() {
        ClockOnce x = Check.townOf("C" + EVEN + EVEN + "A00A11");
        x.sell(0);
        due("sold: toAsk()", x.toAsk(), 2);
        x.undo();
        x.day();
        due("ended: toAsk()", x.toAsk(), 0);
    }

    private void by(String town, int... want) {
        ClockOnce x = Check.townOf(town);
        for (int asker = 0; asker < want.length; asker++) {
            due("by(" + asker + ") of " + town, x.by(asker), want[asker]);
        }
        due("by(" + want.length + ") of " + town, x.by(want.length), UNKNOWN);
    }

    private void byLeastThingItCan() {
        by("C" + EVEN + EVEN + "A01A01", 0, 1);
        by("C" + EVEN + EVEN + "A00A01", 0, 1);
        by("C" + EVEN + EVEN + "A01A00", 1, 0);
        by("C" + EVEN + EVEN + "A11A00", 1, 0);
        by("C" + EVEN.repeat(4) + "A03A02A01A00", 3, 2, 1, 0);
        by("C" + EVEN.repeat(4) + "A03A03A03A03", 0, 1, 2, 3);
        by("C" + EVEN.repeat(3) + "A02A12A01", 0, 2, 1);
        by("C" + LATER + EVEN + "A01", 1);
    }

    private void byOneThatAsksOfNothingLast() {
        by("C");
        by("C" + EVEN);
        by("C" + EVEN + "A00A00", 0, NONE);
        by("C" + EVEN + EVEN + "A01A01A01", 0, 1, NONE);
        by("C" + NEVER + "A00A00", NONE, NONE);
        by("C" + EVEN + NEVER + "A11A01", NONE, 0);
        by("C" + EVEN + EVEN + "A00A00A01", 0, NONE, 1);
    }

    private void byThoseWhoDidNotAskYet() {
        ClockOnce x = Check.townOf("C" + EVEN + EVEN + "A01A01A01");
        x.ask(0, 1);
        due("asked: by(0)", x.by(0), NONE);
        due("the next: by(1)", x.by(1), 0);
        due("the last: by(2)", x.by(2), 1);
        x.ask(1, 0);
        x.ask(2, 0);
        due("all asked: by(2)", x.by(2), NONE);
    }

    private void askedOfNoParts() {
        ClockOnce x = Check.townOf("C" + NEVER + EVEN + "A01A01");
        due("not seen yet: toAsk()", x.toAsk(), 2);
        due("not seen yet: by(0)", x.by(0), 1);
        x.ask(0, 0);
        due("heard, but not seen: toAsk()", x.toAsk(), 2);
        due("heard, but not seen: by(1)", x.by(1), 1);
        share("heard, but not seen", x, 1, 2, 1);
        x.day();
        due("seen: toAsk()", x.toAsk(), STATE);
        due("seen: by(0)", x.by(0), STATE);
        due("seen: by(1)", x.by(1), STATE);
        due("seen: by(2)", x.by(2), UNKNOWN);
        share("seen, asked", x, 0, STATE, STATE);
        share("seen", x, 1, STATE, STATE);
        share("seen", x, 2, UNKNOWN, UNKNOWN);
    }

    private void fewest(String when, String town, int want) {
        due(when + ": fewest() of " + town, Check.townOf(town).fewest(), want);
    }

    private void fewestOfOneWorld() {
        fewest("no things", "C", 0);
        fewest("one thing", "C" + EVEN, 1);
        fewest("four things", "C" + EVEN.repeat(4), 15);
        // Five worlds, each with one more that is early, tell of all four.
        fewest("in a row", "C" + EVEN.repeat(4) + "L01L12L23", 15);
    }

    private void fewestLeastByBits() {
        fewest("the first or the second", "C" + EVEN + EVEN + "L01L10", 1);
        fewest("and the third", "C" + EVEN.repeat(3) + "L01L10", 5);
        fewest("all three in a ring", "C" + EVEN.repeat(3) + "L01L12L20", 1);
        fewest("the last three in a ring", "C" + EVEN.repeat(4) + "L12L23L31", 3);
    }

    private void fewestOfNoPartsToo() {
        fewest("early of no parts", "C" + NEVER, 1);
        fewest("one early of no parts", "C" + NEVER + EVEN, 3);
        ClockOnce x = Check.townOf("C" + NEVER + "T35550");
        x.day();
        due("what all see has no parts: fewest()", x.fewest(), 2);
        days(x, 2);
        due("one world of no parts: fewest()", x.fewest(), 0);
    }

    private void fewestByDay() {
        // The first ends on day 3, the second, late, on day 8 (or 4).
        ClockOnce x = Check.townOf("CT35510T48511");
        int[] fewest = {3, 3, 3, 2, 0, 0, 0, 0, 0, 0};
        for (int day = 0; day <= 9; day++) {
            due("on day " + day + " fewest()", x.fewest(), fewest[day]);
            x.day();
        }
    }

    private void share(String when, ClockOnce x, int asker, int above, int below) {
        due(when + ": share(" + asker + ", true)", x.share(asker, true), above);
        due(when + ": share(" + asker + ", false)", x.share(asker, false), below);
    }

    private void shareOfOneThatAsked() {
        ClockOnce x = Check.townOf("C" + EVEN + "A00A00");
        share("two", x, 0, 1, 1);
        x.ask(0, 0);
        share("asked", x, 0, 0, 1);
        share("the other one", x, 1, 2, 1);
        x.ask(1, 0);
        share("both asked", x, 1, 0, 1);
        x.undo();
        share("undone", x, 1, 2, 1);
        ClockOnce each = Check.townOf("C" + EVEN + EVEN + EVEN + "A00A11A22");
        each.ask(0, 0);
        share("one that asked does not come", each, 1, 2, 1);
        each.ask(1, 1);
        share("none that asked comes", each, 2, 2, 1);
    }

    private void shareOfThoseAlike() {
        int[] above = {2, 1, 2, 1};
        int[] below = {1, 1, 3, 2};
        for (int n = 1; n <= 4; n++) {
            ClockOnce x = Check.townOf("C" + EVEN + "A00".repeat(n));
            for (int asker = 0; asker < n; asker++) {
                share(n + " alike", x, asker, above[n - 1], below[n - 1]);
            }
            share(n + " alike", x, n, UNKNOWN, UNKNOWN);
        }
    }

    private void shareInEachOrder() {
        ClockOnce each = Check.townOf("C" + EVEN + LATER + "A00A11");
        share("each its own", each, 0, 2, 1);
        share("each its own", each, 1, 8, 5);
        // Either alone finds 2; together they find 3.6.
        ClockOnce both = Check.townOf("C" + EVEN + LATER + "A01A00");
        share("2, or 1.6 more", both, 0, 9, 5);
        share("2, or 1.6 more", both, 1, 9, 5);
        // The first alone finds 1.6, each other one 2, the first with another one 3.6, the others 2.
        ClockOnce three = Check.townOf("C" + EVEN + LATER + "A11A00A00");
        share("1.6 in each order", three, 0, 8, 5);
        share("2, if ahead of the other one", three, 1, 1, 1);
        share("2, if ahead of the other one", three, 2, 1, 1);
    }

    private void shareOfNothingFound() {
        share("known all the same", Check.townOf("C" + NEVER + "A00"), 0, 0, 1);
        ClockOnce x = Check.townOf("C" + EVEN + "A00");
        x.sell(0);
        share("sold", x, 0, 0, 1);
        x.undo();
        x.day();
        share("ended", x, 0, 0, 1);
    }
}
