import java.util.LinkedHashMap;
import java.util.Map;
import java.util.function.Supplier;

/** Objects at the document's limits, made anew each time. */
final class States {
    // Two things, truly early, that end on day 2 (or 6) and 3 (or 5).
    static final String PAIR = "CT26530T35480A00A01A11";
    // The first thing is truly early, though that has no parts.
    static final String UNLIKELY = "CT23010T45550A01A11A11";
    static final String FOUR = "CT12511T23511T34511T45511A03A03A03A03";

    private States() {
    }

    static Map<String, Supplier<ClockOnce>> all() {
        Map<String, Supplier<ClockOnce>> states = new LinkedHashMap<>();
        states.put("new", ClockOnce::new);
        states.put("busy", States::busy);
        states.put("text full", States::textFull);
        states.put("last day", States::lastDay);
        states.put("no parts", States::noParts);
        states.put("row full", States::rowFull);
        states.put("seen full", States::seenFull);
        states.put("one kept", States::oneKept);
        states.put("gone on", States::goneOn);
        states.put("text open", States::textOpen);
        return states;
    }

    /** Six acts, by which there came 2, 8, 1 and 0 coins. */
    static ClockOnce busy() {
        ClockOnce x = Check.townOf(PAIR);
        x.ask(0, 0);
        x.day();
        x.sell(1);
        x.see(0, 0);
        x.seed(77);
        x.keep(0);
        x.ask(2, 1);
        x.day();
        x.keep(1);
        x.sell(0);
        return x;
    }

    static ClockOnce textFull() {
        ClockOnce x = busy();
        while (x.count(0) < 48) {
            x.write('0');
        }
        return x;
    }

    static ClockOnce lastDay() {
        ClockOnce x = Check.townOf(PAIR);
        for (int asker = 0; asker < 3; asker++) {
            x.ask(asker, asker / 2);
        }
        for (int day = 0; day < 9; day++) {
            x.day();
        }
        x.sell(0);
        x.sell(1);
        return x;
    }

    static ClockOnce noParts() {
        ClockOnce x = Check.townOf(UNLIKELY);
        x.ask(0, 0);
        x.day();
        x.sell(1);
        x.day();
        x.keep(0);
        return x;
    }

    /** Seventeen acts, of which the first, a day, is forgotten. */
    static ClockOnce rowFull() {
        ClockOnce x = Check.townOf(FOUR);
        x.day();
        for (int one = 0; one < 4; one++) {
            x.sell(one);
            x.ask(one, 3 - one);
        }
        for (int day = 1; day < 9; day++) {
            x.day();
        }
        return x;
    }

    static ClockOnce seenFull() {
        ClockOnce x = Check.townOf(PAIR);
        for (int i = 0; i < 6; i++) {
            x.see(0, 5);
        }
        return x;
    }

    static ClockOnce oneKept() {
        ClockOnce x = Check.townOf(PAIR);
        x.day();
        x.keep(1);
        x.sell(0);
        return x;
    }

    static ClockOnce goneOn() {
        ClockOnce x = oneKept();
        x.again(1);
        return x;
    }

    /** The text is only not at its end. */
    static ClockOnce textOpen() {
        ClockOnce x = oneKept();
        Check.write(x, "CT1");
        return x;
    }
}
