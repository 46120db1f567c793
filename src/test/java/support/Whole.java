import java.util.ArrayList;
import java.util.List;
import java.util.Map;
import java.util.Set;
import java.util.TreeMap;
import java.util.TreeSet;
import java.util.function.Supplier;

/**
 * All that can be learned of an object by calls, by what it is about. What is read only by changing the object
 * (the row of acts, the slots) is read of another object that went the same way.
 */
final class Whole {
    /** A call, or several, with the answer of the last. */
    interface Call {
        long on(ClockOnce x);
    }

    private interface Reading {
        String of(ClockOnce x);
    }

    static final Call NOTHING = x -> 0;

    private static final String PROBE = "CT15550T26530T35480T14710";

    private Whole() {
    }

    /** What is not as it would be without the call, in the order of the alphabet. */
    static Set<String> changed(Map<String, String> before, Map<String, String> after) {
        Set<String> names = new TreeSet<>();
        for (String name : before.keySet()) {
            if (!before.get(name).equals(after.get(name))) {
                names.add(name);
            }
        }
        return names;
    }

    static Map<String, String> after(Supplier<ClockOnce> state, Call call) {
        Map<String, Reading> readings = new TreeMap<>();
        readings.put("LIFE", Whole::life);
        readings.put("ROW", Whole::row);
        readings.put("SEED", x -> "" + x.seed(0));
        readings.put("SEEN", Whole::seen);
        readings.put("SLOT 0", x -> slot(x, 0));
        readings.put("SLOT 1", x -> slot(x, 1));
        readings.put("TEXT", Whole::text);
        readings.put("TOWN", Whole::town);
        Map<String, String> all = new TreeMap<>();
        for (Map.Entry<String, Reading> one : readings.entrySet()) {
            ClockOnce x = state.get();
            call.on(x);
            all.put(one.getKey(), one.getValue().of(x));
        }
        return all;
    }

    private static String town(ClockOnce x) {
        List<Integer> told = new ArrayList<>();
        for (int what = 1; what <= 3; what++) {
            told.add(x.count(what));
        }
        told.add(x.worlds(0));
        told.add(x.worlds(2));
        for (int one = 0; one < 4; one++) {
            for (int what = 0; what < 4; what++) {
                told.add(x.thing(one, what));
            }
            told.add(x.asker(one, 0));
            told.add(x.asker(one, 1));
        }
        for (int day = 0; day < 9; day++) {
            x.day();
        }
        for (int thing = 0; thing < 4; thing++) {
            told.add(x.thing(thing, 6));
        }
        return told.toString();
    }

    private static String life(ClockOnce x) {
        List<Integer> told = new ArrayList<>();
        for (int what = 4; what <= 8; what++) {
            told.add(x.count(what));
        }
        told.add(x.worlds(1));
        told.add(x.worlds(3));
        for (int one = 0; one < 4; one++) {
            for (int what = 4; what <= 6; what++) {
                told.add(x.thing(one, what));
            }
            told.add(x.asker(one, 2));
            told.add(x.asker(one, 3));
            told.add(x.holds(one));
        }
        return told.toString();
    }

    /** What each act changed, from the last one back. */
    private static String row(ClockOnce x) {
        StringBuilder told = new StringBuilder().append(x.count(9));
        int[] now = acted(x);
        for (int left = x.undo(); left >= 0; left = x.undo()) {
            int[] before = acted(x);
            told.append(' ').append(left);
            for (int i = 0; i < now.length; i++) {
                told.append(i == 0 ? ':' : ',').append(now[i] - before[i]);
            }
            now = before;
        }
        return told.toString();
    }

    private static int[] acted(ClockOnce x) {
        return new int[] {x.count(4), x.count(5), x.count(6), x.asker(0, 2), x.asker(1, 2), x.asker(2, 2), x.asker(3, 2)};
    }

    private static String slot(ClockOnce x, int slot) {
        int coins = x.again(slot);
        return coins < 0 ? "none" : coins + life(x) + row(x);
    }

    private static String text(ClockOnce x) {
        return x.count(0) + " " + x.fault() + (x.town() < 0 ? "" : town(x)) + x.wipe();
    }

    private static String seen(ClockOnce x) {
        StringBuilder told = new StringBuilder().append(x.count(10));
        for (int things = 0; things <= 4; things++) {
            Check.write(x, PROBE.substring(0, 1 + 6 * things));
            x.town();
            told.append(' ').append(x.which());
        }
        return told.append(' ').append(x.unsee()).toString();
    }
}
