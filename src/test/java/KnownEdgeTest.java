/** WORLDS, what is held possible, how likely, when WISE: the promises 12 to 15 at their limits. */
final class KnownEdgeTest {
    private static final int UNKNOWN = -1, OUTSIDE = -2, STATE = -3;

    // Ends on day 1 or 5, worth 5: sold on day 0 it gives 5 for sure, on day 4 it gives 1 or 9. By 5 tenths both
    // give 5 in the mean, by 4 tenths day 4 gives 5.8, by 6 tenths 4.2; on the days between it is always less.
    private static final String EVEN = "T15550";
    private static final String LATER = "T15450";
    private static final String SOONER = "T15650";
    // Never early by its tenths, but in truth.
    private static final String NEVER = "T15050";

    private final Check check = new Check("KnownEdgeTest");

    public static void main(String[] args) {
        KnownEdgeTest test = new KnownEdgeTest();
        test.worldsOfNoThings();
        test.worldsOfFourThings();
        test.worldsOfNoParts();
        test.worldsSoThatLinksHold();
        test.worldsSeenOnEachDay();
        test.worldsSeenOfTwo();
        test.heldOfWhatWasHeard();
        test.likelyFromNoneToAll();
        test.likelyInLeastTerms();
        test.likelyOfNoParts();
        test.wiseOfLikeOnesTheLeast();
        test.wiseFromTheDayTo9();
        test.wiseOfWhatHasEnded();
        test.wiseOfNoPartsOrSold();
        test.wiseByCoinsFrom1To9();
        test.check.end();
    }

    private void due(String call, long got, long want) {
        check.due(call, got, want);
    }

    private static void days(ClockOnce x, int n) {
        for (int i = 0; i < n; i++) {
            x.day();
        }
    }

    private void worlds(String when, ClockOnce x, int all, int seen, int parts, int partsSeen) {
        due(when + ": worlds(0)", x.worlds(0), all);
        due(when + ": worlds(1)", x.worlds(1), seen);
        due(when + ": worlds(2)", x.worlds(2), parts);
        due(when + ": worlds(3)", x.worlds(3), partsSeen);
        due(when + ": worlds(4)", x.worlds(4), OUTSIDE);
        due(when + ": worlds(-1)", x.worlds(-1), OUTSIDE);
    }

    private void worldsOfNoThings() {
        ClockOnce x = new ClockOnce();
        worlds("no things", x, 1, 1, 1, 1);
        days(x, 9);
        worlds("no things, on day 9", x, 1, 1, 1, 1);
    }

    private void worldsOfFourThings() {
        worlds("one thing", Check.townOf("C" + EVEN), 2, 2, 10, 10);
        worlds("four things", Check.townOf("C" + EVEN.repeat(4)), 16, 16, 10000, 10000);
    }

    private void worldsOfNoParts() {
        worlds("0 tenths", Check.townOf("C" + NEVER), 2, 2, 10, 10);
        worlds("9 tenths", Check.townOf("CT15950"), 2, 2, 10, 10);
        ClockOnce x = Check.townOf("C" + NEVER + EVEN);
        x.day();
        worlds("early by 0 tenths", x, 4, 1, 100, 0);
    }

    private void worldsSoThatLinksHold() {
        // Early by 1 tenth each: none early 6561 parts, the last 729, the last two 81, three 9, all 1.
        worlds("in a row", Check.townOf("CT12110T12110T12110T12110L01L12L23"), 5, 5, 7381, 7381);
        // Early by 2 and by 3 tenths: both early 6 parts, both late 56.
        worlds("both ways", Check.townOf("CT12210T12310L01L10"), 2, 2, 62, 62);
        // The first early 2 by 3 parts, late 8 by 10.
        worlds("one way", Check.townOf("CT12210T12310L01"), 3, 3, 86, 86);
        // A link into a thing that is never early: the first is never early either.
        worlds("into one of 0 tenths", Check.townOf("CT12210T12010L01"), 3, 3, 80, 80);
    }

    private void worldsSeenOnEachDay() {
        // Early by 3 tenths, on day 3; else late, on day 5.
        int[] early = {10, 10, 10, 3, 3, 3, 3, 3, 3, 3};
        int[] late = {10, 10, 10, 7, 7, 7, 7, 7, 7, 7};
        ClockOnce x = Check.townOf("CT35310");
        ClockOnce y = Check.townOf("CT35311");
        for (int day = 0; day <= 9; day++) {
            worlds("truly early, day " + day, x, 2, day < 3 ? 2 : 1, 10, early[day]);
            worlds("truly late, day " + day, y, 2, day < 3 ? 2 : 1, 10, late[day]);
            x.day();
            y.day();
        }
    }

    private void worldsSeenOfTwo() {
        // The first truly late, on day 9 (or 2), the second truly early, on day 8 (or 9).
        ClockOnce x = Check.townOf("CT29311T89410");
        int[] seen = {4, 4, 2, 2, 2, 2, 2, 2, 1, 1};
        int[] parts = {100, 100, 70, 70, 70, 70, 70, 70, 28, 28};
        for (int day = 0; day <= 9; day++) {
            worlds("of two, day " + day, x, 4, seen[day], 100, parts[day]);
            x.day();
        }
        // The second early makes the first early (less 30 parts): not ended on day 2, the first is late, so is the second.
        ClockOnce linked = Check.townOf("CT25411T46511L10");
        days(linked, 1);
        worlds("linked, day 1", linked, 3, 3, 70, 70);
        days(linked, 1);
        worlds("linked, day 2", linked, 3, 1, 70, 30);
    }

    private void heldOfWhatWasHeard() {
        ClockOnce x = Check.townOf("C" + NEVER + EVEN + "A00A01A11");
        for (int asker = 0; asker < 3; asker++) {
            due("nothing heard: holds(" + asker + ")", x.holds(asker), 4);
        }
        x.ask(0, 0);
        due("asked, of no parts: holds(0)", x.holds(0), 2);
        due("heard: holds(1)", x.holds(1), 2);
        due("not heard: holds(2)", x.holds(2), 4);
        x.ask(2, 1);
        due("heard of one: holds(0)", x.holds(0), 2);
        due("heard of both: holds(1)", x.holds(1), 1);
        due("heard of the other: holds(2)", x.holds(2), 2);
        x.day();
        for (int asker = 0; asker < 3; asker++) {
            due("both have ended: holds(" + asker + ")", x.holds(asker), 1);
        }
    }

    private void likely(String when, ClockOnce x, int asker, int thing, int above, int below) {
        due(when + ": likely(" + asker + ", " + thing + ", true)", x.likely(asker, thing, true), above);
        due(when + ": likely(" + asker + ", " + thing + ", false)", x.likely(asker, thing, false), below);
    }

    private void likelyFromNoneToAll() {
        likely("0 tenths", Check.townOf("C" + NEVER + "A00"), 0, 0, 0, 1);
        ClockOnce early = Check.townOf("CT35310A00");
        early.ask(0, 0);
        likely("heard, early", early, 0, 0, 1, 1);
        ClockOnce late = Check.townOf("CT35311A00");
        late.ask(0, 0);
        likely("heard, late", late, 0, 0, 0, 1);
        late.undo();
        days(late, 2);
        likely("a day ahead of its early day", late, 0, 0, 3, 10);
        days(late, 1);
        likely("on its early day, not ended", late, 0, 0, 0, 1);
    }

    private void likelyInLeastTerms() {
        int[] above = {0, 1, 1, 3, 2, 1, 3, 7, 4, 9};
        int[] below = {1, 10, 5, 10, 5, 2, 5, 10, 5, 10};
        for (int tenths = 0; tenths <= 9; tenths++) {
            likely(tenths + " tenths", Check.townOf("CT15" + tenths + "50A00"), 0, 0, above[tenths], below[tenths]);
        }
        ClockOnce four = Check.townOf("C" + LATER.repeat(4) + "A03");
        likely("4000 of 10000 parts", four, 0, 3, 2, 5);
    }

    private void likelyOfNoParts() {
        ClockOnce x = Check.townOf("C" + NEVER + EVEN + "A00A01A11");
        x.ask(0, 0);
        likely("heard of no parts", x, 0, 0, STATE, STATE);
        likely("heard of no parts, another thing", x, 1, 1, STATE, STATE);
        likely("not heard", x, 2, 1, 1, 2);
        likely("no such thing", x, 0, 2, UNKNOWN, UNKNOWN);
        likely("no such asker", x, 3, 0, UNKNOWN, UNKNOWN);
        x.day();
        likely("seen of no parts", x, 2, 1, STATE, STATE);
    }

    private void wise(String when, String thing, int want) {
        due(when + ": wise(0, 0) of " + thing, Check.townOf("C" + thing + "A00").wise(0, 0), want);
    }

    private void wiseOfLikeOnesTheLeast() {
        wise("days 0 and 4 alike", EVEN, 0);
        wise("day 4 gives more", LATER, 4);
        wise("day 0 gives more", SOONER, 0);
        // Worth 1, it gives 5 on day 4 and, ended, on each day from 5 on.
        wise("the days behind its end alike", "T15010", 4);
        ClockOnce known = Check.townOf("CT38511A00");
        known.ask(0, 0);
        due("known late, worth 1: wise(0, 0)", known.wise(0, 0), 7);
    }

    private void wiseFromTheDayTo9() {
        // Late for sure, on day 9: it is best sold on day 8, whatever THE DAY is.
        ClockOnce x = Check.townOf("CT19051A00");
        for (int day = 0; day <= 9; day++) {
            due("on day " + day + " wise(0, 0)", x.wise(0, 0), day < 9 ? 8 : 9);
            x.day();
        }
        // On day 0 it is even; on day 1, not ended, it is late for sure.
        ClockOnce late = Check.townOf("CT15551A00");
        due("on day 0, even: wise(0, 0)", late.wise(0, 0), 0);
        late.day();
        due("on day 1, late: wise(0, 0)", late.wise(0, 0), 4);
        days(late, 3);
        due("on day 4: wise(0, 0)", late.wise(0, 0), 4);
        days(late, 1);
        due("on day 5, ended: wise(0, 0)", late.wise(0, 0), 5);
    }

    private void wiseOfWhatHasEnded() {
        ClockOnce x = Check.townOf("CT15550A00");
        x.ask(0, 0);
        due("known early: wise(0, 0)", x.wise(0, 0), 0);
        for (int day = 1; day <= 9; day++) {
            x.day();
            due("it gives none on any day: wise(0, 0)", x.wise(0, 0), day);
        }
    }

    private void wiseOfNoPartsOrSold() {
        ClockOnce x = Check.townOf("C" + NEVER + EVEN + "A00A01A11");
        x.ask(0, 0);
        due("no parts: wise(0, 0)", x.wise(0, 0), STATE);
        due("no parts, another thing: wise(1, 1)", x.wise(1, 1), STATE);
        due("not heard: wise(2, 1)", x.wise(2, 1), 0);
        due("not heard: wise(2, 0)", x.wise(2, 0), 4);
        x.sell(1);
        due("sold: wise(2, 1)", x.wise(2, 1), STATE);
        due("not sold: wise(2, 0)", x.wise(2, 0), 4);
        due("sold, no such asker: wise(3, 1)", x.wise(3, 1), UNKNOWN);
        due("no parts, no such thing: wise(0, 2)", x.wise(0, 2), UNKNOWN);
        x.undo();
        due("undone: wise(2, 1)", x.wise(2, 1), 0);
    }

    private void wiseByCoinsFrom1To9() {
        // On day 4 by 5 tenths: half of 1 and 4 and its coins; on day 0 its coins: even at 5.
        for (int coins = 1; coins <= 9; coins++) {
            wise("worth " + coins, "T155" + coins + "0", coins < 5 ? 4 : 0);
        }
    }
}
