/** THE TEXT, FAULT and the promises 1 to 5 at their limits: a method for each sentence that names one. */
final class TextEdgeTest {
    private static final int STATE = -3, FULL = -4, OUTSIDE = -2, NONE = -9;
    private static final String THING = "T12110";
    private static final String LATE_THING = "T12111";

    private final Check check = new Check("TextEdgeTest");

    public static void main(String[] args) {
        TextEdgeTest test = new TextEdgeTest();
        test.atMost48Letters();
        test.lettersFrom0To255();
        test.wipedIsEmpty();
        test.townBeginsWithC();
        test.partsNoneOrMore();
        test.atMostFourThings();
        test.atMostFourAskers();
        test.atMostThreeLinks();
        test.numberedEachForItself();
        test.earlyDayFrom1To8();
        test.lateDayBehindEarlyTo9();
        test.tenthsFrom0To9();
        test.coinsFrom1To9();
        test.truthIs0Or1();
        test.askerOfThingsToldAhead();
        test.linkedThingsAreUnlike();
        test.linkedThingsAreToldAhead();
        test.noTwoLinksFromOneToTheSame();
        test.linkIsSoInTruth();
        test.faultWhateverCameBehind();
        test.faultIsTheFirstOne();
        test.lengthIfOnlyNotAtItsEnd();
        test.lengthSetAside();
        test.faultToldTwice();
        test.atFirstTheTownIsC();
        test.townMadeAnew();
        test.townOfItsOwnTextAlone();
        test.townTells10TimesThings();
        test.townKeepsTheText();
        test.keptIsGone();
        test.seenAndSeedStay();
        test.check.end();
    }

    private static int faultOf(String text) {
        ClockOnce x = new ClockOnce();
        Check.write(x, text);
        return x.fault();
    }

    private static String things(int n) {
        return "C" + THING.repeat(n);
    }

    /** Behind such a beginning these letters may come, of all 256, and no others. */
    private void mayFollow(String sentence, String beginning, String letters) {
        int place = beginning.length();
        check.holds(sentence + ": " + beginning + " is no fault", faultOf(beginning) == NONE || faultOf(beginning) == place);
        for (char letter = 0; letter < 256; letter++) {
            int fault = faultOf(beginning + letter);
            boolean may = letters.indexOf(letter) >= 0;
            boolean asDue = may ? fault == NONE || fault == place + 1 : fault == place;
            check.holds(sentence + ": behind " + beginning + " letter " + (int) letter + " has fault " + fault, asDue);
        }
    }

    private void fault(String sentence, String text, int want) {
        check.due(sentence + ": fault() of " + text, faultOf(text), want);
        ClockOnce x = new ClockOnce();
        Check.write(x, text);
        int made = x.town();
        check.holds(sentence + ": town() of " + text, want == NONE ? made >= 0 : made == STATE);
    }

    private void atMost48Letters() {
        ClockOnce x = new ClockOnce();
        for (int i = 1; i <= 48; i++) {
            check.due("48 at most: write, " + i, x.write('0'), i);
        }
        check.due("FULL: there are 48", x.write('0'), FULL);
        check.due("48 at most: count(0)", x.count(0), 48);
        check.due("wipe() of 48", x.wipe(), 48);
        check.due("room anew", x.write('C'), 1);
    }

    private void lettersFrom0To255() {
        ClockOnce x = new ClockOnce();
        check.due("0 to 255: write(-1)", x.write(-1), OUTSIDE);
        check.due("0 to 255: write(0)", x.write(0), 1);
        check.due("0 to 255: write(255)", x.write(255), 2);
        check.due("0 to 255: write(256)", x.write(256), OUTSIDE);
        // 'C' and 256 is no C.
        check.due("0 to 255: write(323)", x.write(323), OUTSIDE);
    }

    private void wipedIsEmpty() {
        ClockOnce x = new ClockOnce();
        check.due("wipe() of an empty text", x.wipe(), 0);
        x.write('C');
        check.due("wipe() of one letter", x.wipe(), 1);
        check.due("wipe() again", x.wipe(), 0);
        check.due("wiped: fault() is its length", x.fault(), 0);
        check.due("wiped: town()", x.town(), STATE);
        ClockOnce y = Check.townOf(things(2));
        y.wipe();
        check.due("wiped: the town stands", y.count(1), 2);
    }

    private void townBeginsWithC() {
        mayFollow("a TOWN is C, then", "", "C");
    }

    private void partsNoneOrMore() {
        fault("none or more", "C", NONE);
        mayFollow("nothing is told ahead of an asker or a link", "C", "T");
        mayFollow("one thing can not be linked", things(1), "TA");
        mayFollow("parts as they come", things(2), "TAL");
        fault("in any order", "C" + THING + "A00" + THING + "L01A01" + THING + "L12", NONE);
    }

    private void atMostFourThings() {
        fault("4 things", things(4), NONE);
        mayFollow("THINGS (4 at most)", things(3), "TAL");
        mayFollow("THINGS (4 at most)", things(4), "AL");
    }

    private void atMostFourAskers() {
        String four = things(2) + "A00A00A00A00";
        fault("4 askers", four, NONE);
        mayFollow("ASKERS (4 at most)", things(2) + "A00A00A00", "TAL");
        mayFollow("ASKERS (4 at most)", four, "TL");
    }

    private void atMostThreeLinks() {
        String three = things(3) + "L01L02L10";
        fault("3 links", three, NONE);
        mayFollow("LINKS (3 at most)", things(3) + "L01L02", "TAL");
        mayFollow("LINKS (3 at most)", three, "TA");
        mayFollow("all parts told", things(4) + "A00A00A00A00L01L02L03", "");
    }

    private void numberedEachForItself() {
        ClockOnce x = Check.townOf("CT12110A00T34220A01T56330L12A12");
        check.due("numbered: thing(0, 0)", x.thing(0, 0), 1);
        check.due("numbered: thing(1, 0)", x.thing(1, 0), 3);
        check.due("numbered: thing(2, 0)", x.thing(2, 0), 5);
        check.due("numbered: asker(0, 1)", x.asker(0, 1), 0);
        check.due("numbered: asker(1, 1)", x.asker(1, 1), 1);
        check.due("numbered: asker(2, 0)", x.asker(2, 0), 1);
        check.due("numbered: count(3)", x.count(3), 1);
    }

    private void earlyDayFrom1To8() {
        mayFollow("DAY a (1 to 8)", "CT", "12345678");
        mayFollow("DAY a (1 to 8), of the next one", things(1) + "T", "12345678");
    }

    private void lateDayBehindEarlyTo9() {
        for (int a = 1; a <= 8; a++) {
            mayFollow("DAY b (a and 1, to 9)", "CT" + a, "123456789".substring(a));
        }
    }

    private void tenthsFrom0To9() {
        mayFollow("x tenths (0 to 9)", "CT12", "0123456789");
        check.due("0 tenths", Check.townOf("CT12010").thing(0, 2), 0);
        check.due("9 tenths", Check.townOf("CT12910").thing(0, 2), 9);
    }

    private void coinsFrom1To9() {
        mayFollow("v COINS (1 to 9)", "CT121", "123456789");
        check.due("1 coin", Check.townOf("CT12110").thing(0, 3), 1);
        check.due("9 coins", Check.townOf("CT12190").thing(0, 3), 9);
    }

    private void truthIs0Or1() {
        mayFollow("EARLY (0) or LATE (1)", "CT1211", "01");
        check.due("truly early", Check.townOf("CT37110A00").ask(0, 0), 3);
        check.due("truly late", Check.townOf("CT37111A00").ask(0, 0), 7);
    }

    private void askerOfThingsToldAhead() {
        for (int n = 1; n <= 4; n++) {
            mayFollow("m told ahead", things(n) + "A", "0123".substring(0, n));
            for (int m = 0; m < n; m++) {
                mayFollow("n told ahead, not less than m", things(n) + "A" + m, "0123".substring(m, n));
            }
        }
        fault("told behind is not told ahead", things(1) + "A01" + THING, 9);
        fault("told behind is not told ahead", things(1) + "A10" + THING, 8);
    }

    private void linkedThingsAreUnlike() {
        for (int one = 0; one < 3; one++) {
            String others = "012".replace("" + one, "");
            mayFollow("unlike", things(3) + "L" + one, others);
        }
    }

    private void linkedThingsAreToldAhead() {
        for (int n = 2; n <= 4; n++) {
            mayFollow("i told ahead", things(n) + "L", "0123".substring(0, n));
            mayFollow("j told ahead", things(n) + "L0", "0123".substring(1, n));
        }
        fault("told behind is not told ahead", things(2) + "L02" + THING, 15);
        fault("told behind is not told ahead", things(2) + "L20" + THING, 14);
        fault("told behind is not told ahead", things(1) + "L01" + THING, 7);
    }

    private void noTwoLinksFromOneToTheSame() {
        mayFollow("no two from one to the same", things(3) + "L01L0", "2");
        mayFollow("back it may be", things(3) + "L01L1", "02");
        mayFollow("from another one it may be", things(3) + "L01L2", "01");
        // From 0 there is no other one left, but from 1 there is.
        mayFollow("none left from that one", things(2) + "L01L", "1");
        mayFollow("none left from that one", things(3) + "L01L02L", "12");
        mayFollow("none left at all", things(2) + "L01L10", "TA");
        // With one more thing there is room again.
        mayFollow("another one told", things(2) + "L01L10" + THING, "TAL");
    }

    private void linkIsSoInTruth() {
        fault("early and early", "C" + THING + THING + "L01", NONE);
        fault("late and late", "C" + LATE_THING + LATE_THING + "L01", NONE);
        fault("late and early", "C" + LATE_THING + THING + "L01", NONE);
        fault("early and late", "C" + THING + LATE_THING + "L01", 14);
        fault("early, and early or late", "C" + THING + LATE_THING + THING + "L01", 21);
        fault("early, and early or late", "C" + THING + LATE_THING + THING + "L02", NONE);
        mayFollow("only from late to early", "C" + THING + LATE_THING + "L", "1");
        mayFollow("the only one is told", "C" + THING + LATE_THING + "L10", "TA");
    }

    private void faultWhateverCameBehind() {
        for (String behind : new String[] {"", "0", "C", "L", "T12110", "A00", ((char) 0) + "", ((char) 255) + ""}) {
            check.due("whatever came behind X", faultOf("X" + behind), 0);
            check.due("whatever came behind CX", faultOf("CX" + behind), 1);
            check.due("whatever came behind CT9", faultOf("CT9" + behind), 2);
            check.due("whatever came behind CT33", faultOf("CT33" + behind), 3);
            check.due("whatever came behind an A of none", faultOf("CA" + behind), 1);
            check.due("whatever came behind an L of one", faultOf(things(1) + "L" + behind), 7);
            check.due("whatever came behind an L from which none is so", faultOf("C" + THING + LATE_THING + "L0" + behind), 14);
            check.due("whatever came behind a fifth thing", faultOf(things(4) + "T" + behind), 25);
        }
    }

    private void faultIsTheFirstOne() {
        check.due("the first letter", faultOf("CT12110XX"), 7);
        check.due("the first of unlike ones", faultOf("CT10110T99"), 3);
        check.due("an upper C alone", faultOf("cT12110"), 0);
        check.due("an upper T alone", faultOf("Ct12110"), 1);
    }

    private void lengthIfOnlyNotAtItsEnd() {
        String full = "CT12110A00T89911A01L10T13550A12";
        int[] ends = {1, 7, 10, 16, 19, 22, 28, 31};
        for (int length = 0; length <= full.length(); length++) {
            boolean isEnd = false;
            for (int end : ends) {
                isEnd |= end == length;
            }
            fault("its length, if it is only not at its end", full.substring(0, length), isEnd ? NONE : length);
        }
    }

    private void lengthSetAside() {
        String longest = things(4) + "A00A01A02A03L01L12L23";
        check.due("the longest town", longest.length(), 46);
        fault("the longest town", longest, NONE);
        fault("one letter more", longest + "T", 46);
        fault("two letters more", longest + "T1", 46);
        fault("48 letters", "C" + "X".repeat(47), 1);
        fault("48 letters", "CT1211" + "0".repeat(42), 7);
    }

    private void faultToldTwice() {
        ClockOnce x = new ClockOnce();
        String[] texts = {things(4) + "A00A01A02A03L01L12L23", things(2) + "L01L1", "CT1", things(2) + "A01L01", "C"};
        int[] faults = {NONE, 18, 3, NONE, NONE};
        for (int i = 0; i < texts.length; i++) {
            Check.write(x, texts[i]);
            check.due("fault() of " + texts[i], x.fault(), faults[i]);
            check.due("fault() once more of " + texts[i], x.fault(), faults[i]);
        }
    }

    private void atFirstTheTownIsC() {
        ClockOnce x = new ClockOnce();
        for (int what = 0; what <= 10; what++) {
            check.due("no things, nobody: count(" + what + ")", x.count(what), 0);
        }
        for (int what = 0; what < 4; what++) {
            check.due("one world of one part: worlds(" + what + ")", x.worlds(what), 1);
        }
        check.due("at first: fault() of no text", x.fault(), 0);
        check.due("at first: seed(0)", x.seed(0), 0);
        check.due("at first: which()", x.which(), 16);
        check.due("at first: year(1)", x.year(1), 0);
        check.due("at first: day()", x.day(), 0);
        check.due("at first: judge(1, 0)", x.judge(1, 0), 0);
    }

    private void townMadeAnew() {
        ClockOnce x = States.busy();
        x.town();
        check.due("made anew: the day is 0", x.count(4), 0);
        check.due("made anew: no coins", x.count(5), 0);
        check.due("made anew: nothing sold", x.count(6), 0);
        check.due("made anew: nothing has ended", x.count(7), 0);
        check.due("made anew: nothing asked", x.count(8), 0);
        check.due("made anew: no acts", x.count(9), 0);
        check.due("made anew: undo()", x.undo(), STATE);
        for (int one = 0; one < 3; one++) {
            check.due("made anew: asker(" + one + ", 2)", x.asker(one, 2), NONE);
            check.due("made anew: asker(" + one + ", 3)", x.asker(one, 3), 0);
            check.due("made anew: holds(" + one + ")", x.holds(one), 4);
        }
        for (int one = 0; one < 2; one++) {
            check.due("made anew: thing(" + one + ", 4)", x.thing(one, 4), NONE);
            check.due("made anew: thing(" + one + ", 6)", x.thing(one, 6), NONE);
        }
    }

    private void townOfItsOwnTextAlone() {
        ClockOnce x = new ClockOnce();
        String[] texts = {things(4), things(4), things(4) + "L01L12L23", things(2) + "L01L10", things(2), things(1), "C"};
        int[] worlds = {16, 16, 5, 2, 4, 2, 1};
        int[] links = {0, 0, 3, 2, 0, 0, 0};
        for (int i = 0; i < texts.length; i++) {
            Check.write(x, texts[i]);
            x.town();
            check.due("of no other town: worlds(0) of " + texts[i], x.worlds(0), worlds[i]);
            check.due("of no other town: count(3) of " + texts[i], x.count(3), links[i]);
        }
    }

    private void townTells10TimesThings() {
        ClockOnce x = new ClockOnce();
        String[] texts = {"C", things(1), things(4), things(1) + "A00", things(4) + "A00A01A02A03", things(2) + "A01A01A01"};
        int[] told = {0, 10, 40, 11, 44, 23};
        for (int i = 0; i < texts.length; i++) {
            Check.write(x, texts[i]);
            check.due("10 times THINGS, and ASKERS: " + texts[i], x.town(), told[i]);
            check.due("THINGS: " + texts[i], x.count(1), told[i] / 10);
            check.due("ASKERS: " + texts[i], x.count(2), told[i] % 10);
        }
    }

    private void townKeepsTheText() {
        ClockOnce x = Check.townOf(things(1));
        check.due("the text stays: count(0)", x.count(0), 7);
        check.due("the text stays: fault()", x.fault(), NONE);
        check.due("the text stays: town()", x.town(), 10);
        check.due("the text goes on: write", x.write('A'), 8);
        check.due("the text goes on: town()", x.town(), STATE);
        x.write('0');
        x.write('0');
        check.due("the text goes on: town() of an asker more", x.town(), 11);
    }

    private void keptIsGone() {
        ClockOnce x = States.busy();
        x.write('X');
        check.due("a fault: town()", x.town(), STATE);
        check.due("a fault: what was kept is not gone", x.again(0), 10);
        check.due("a fault: what was kept is not gone", x.again(1), 11);
        ClockOnce y = States.busy();
        y.town();
        check.due("what was kept is gone: again(0)", y.again(0), STATE);
        check.due("what was kept is gone: again(1)", y.again(1), STATE);
        check.due("kept anew: keep(1)", y.keep(1), 0);
        check.due("kept anew: again(1)", y.again(1), 0);
        check.due("kept anew: again(0)", y.again(0), STATE);
    }

    private void seenAndSeedStay() {
        ClockOnce x = States.seenFull();
        x.seed(Long.MIN_VALUE);
        x.town();
        check.due("what is seen stays: count(10)", x.count(10), 6);
        check.due("what is seen stays: which()", x.which(), 18);
        Check.write(x, "C");
        x.town();
        check.due("what is seen stays, of things that are not: count(10)", x.count(10), 6);
        check.due("the seed stays", x.seed(0), Long.MIN_VALUE);
    }
}
