import java.math.BigInteger;
import java.util.ArrayList;
import java.util.Collections;
import java.util.HashMap;
import java.util.LinkedList;
import java.util.List;
import java.util.Map;
import java.util.TreeMap;

/**
 * The document once more, told as plainly as it goes and by other means than the class: worlds as
 * lists, days simulated one by one, all orders and all ways gone through, undone by copies.
 */
final class Model {
    static final int UNKNOWN = -1, OUTSIDE = -2, STATE = -3, FULL = -4, NONE = -9;

    record Thing(int a, int b, int x, int v, boolean early) {
        int end(boolean isEarly) {
            return isEarly ? a : b;
        }

        int trueEnd() {
            return end(early);
        }
    }

    record Asker(int m, int n) { }

    record Link(int i, int j) { }

    record Town(List<Thing> things, List<Asker> askers, List<Link> links) { }

    record State(int day, Map<Integer, Integer> asked, Map<Integer, Integer> sold, int coins) { }

    private String text = "";
    private Town town = parse("C");
    private State state = anew();
    private final LinkedList<State> before = new LinkedList<>();
    private final State[] kept = new State[2];
    private final List<int[]> seen = new ArrayList<>();
    private long seed = 0;

    private static State anew() {
        return new State(0, new TreeMap<>(), new TreeMap<>(), 0);
    }

    // ---- the town

    /** The town, or null if the whole text is none. */
    static Town parse(String text) {
        if (!text.matches("C(T[1-8][2-9][0-9][1-9][01]|A[0-3][0-3]|L[0-3][0-3])*")) {
            return null;
        }
        Town town = new Town(new ArrayList<>(), new ArrayList<>(), new ArrayList<>());
        for (int at = 1; at < text.length(); ) {
            char kind = text.charAt(at);
            int one = text.charAt(at + 1) - '0';
            int other = text.charAt(at + 2) - '0';
            int there = town.things.size();
            if (kind == 'T') {
                if (other <= one) {
                    return null;
                }
                town.things.add(new Thing(one, other, text.charAt(at + 3) - '0', text.charAt(at + 4) - '0', text.charAt(at + 5) == '0'));
                at += 6;
                continue;
            }
            if (one >= there || other >= there) {
                return null;
            }
            if (kind == 'A') {
                if (other < one) {
                    return null;
                }
                town.askers.add(new Asker(one, other));
            } else {
                Link link = new Link(one, other);
                boolean lies = town.things.get(one).early && !town.things.get(other).early;
                if (one == other || town.links.contains(link) || lies) {
                    return null;
                }
                town.links.add(link);
            }
            at += 3;
        }
        if (town.things.size() > 4 || town.askers.size() > 4 || town.links.size() > 3) {
            return null;
        }
        return town;
    }

    /**
     * Whether some town begins with this text, looked for by trying out what could come behind: 9 is
     * later than each day a, 0 to 3 are all things, and the rest of a thing can be 0, 1 and 0.
     */
    static boolean canBecomeTown(String start, int more) {
        if (parse(start) != null) {
            return true;
        }
        if (more == 0) {
            return false;
        }
        for (char figure : "01239".toCharArray()) {
            if (canBecomeTown(start + figure, more - 1)) {
                return true;
            }
        }
        return false;
    }

    static int faultOf(String text) {
        if (parse(text) != null) {
            return NONE;
        }
        for (int place = 0; place < text.length(); place++) {
            String start = text.substring(0, place + 1);
            int open = Math.max(start.lastIndexOf('T') + 6, Math.max(start.lastIndexOf('A'), start.lastIndexOf('L')) + 3);
            if (!canBecomeTown(start, Math.max(0, Math.min(5, open - start.length())))) {
                return place;
            }
        }
        return text.length();
    }

    int write(int letter) {
        if (letter < 0 || letter > 255) {
            return OUTSIDE;
        }
        if (text.length() == 48) {
            return FULL;
        }
        text += (char) letter;
        return text.length();
    }

    int wipe() {
        int was = text.length();
        text = "";
        return was;
    }

    int fault() {
        return faultOf(text);
    }

    int town() {
        Town told = parse(text);
        if (told == null) {
            return STATE;
        }
        town = told;
        state = anew();
        before.clear();
        kept[0] = null;
        kept[1] = null;
        return 10 * town.things.size() + town.askers.size();
    }

    private boolean noThing(int thing) {
        return thing < 0 || thing >= town.things.size();
    }

    private boolean noAsker(int asker) {
        return asker < 0 || asker >= town.askers.size();
    }

    private boolean ended(int thing) {
        return town.things.get(thing).trueEnd() <= state.day;
    }

    int thing(int thing, int what) {
        if (noThing(thing)) {
            return UNKNOWN;
        }
        Thing it = town.things.get(thing);
        return switch (what) {
            case 0 -> it.a;
            case 1 -> it.b;
            case 2 -> it.x;
            case 3 -> it.v;
            case 4 -> state.sold.getOrDefault(thing, NONE);
            case 5 -> ended(thing) ? 1 : 0;
            case 6 -> ended(thing) || state.asked.containsValue(thing) ? it.trueEnd() : NONE;
            default -> OUTSIDE;
        };
    }

    int asker(int asker, int what) {
        if (noAsker(asker)) {
            return UNKNOWN;
        }
        return switch (what) {
            case 0 -> town.askers.get(asker).m;
            case 1 -> town.askers.get(asker).n;
            case 2 -> state.asked.getOrDefault(asker, NONE);
            case 3 -> heard(asker);
            default -> OUTSIDE;
        };
    }

    private int heard(int asker) {
        int bits = 0;
        for (Map.Entry<Integer, Integer> one : state.asked.entrySet()) {
            if (Math.abs(one.getKey() - asker) <= 1) {
                bits |= 1 << one.getValue();
            }
        }
        return bits;
    }

    // ---- acts

    private void act(State next) {
        before.addLast(state);
        if (before.size() > 16) {
            before.removeFirst();
        }
        state = next;
    }

    int ask(int asker, int thing) {
        if (noAsker(asker) || noThing(thing)) {
            return UNKNOWN;
        }
        if (thing < town.askers.get(asker).m || thing > town.askers.get(asker).n) {
            return OUTSIDE;
        }
        if (state.asked.containsKey(asker)) {
            return STATE;
        }
        Map<Integer, Integer> asked = new TreeMap<>(state.asked);
        asked.put(asker, thing);
        act(new State(state.day, asked, state.sold, state.coins));
        return town.things.get(thing).trueEnd();
    }

    int day() {
        if (state.day == 9) {
            return STATE;
        }
        int coins = 0;
        for (int t = 0; t < town.things.size(); t++) {
            if (!state.sold.containsKey(t) && town.things.get(t).trueEnd() > state.day) {
                coins++;
            }
        }
        act(new State(state.day + 1, state.asked, state.sold, state.coins + coins));
        return coins;
    }

    int sell(int thing) {
        if (noThing(thing)) {
            return UNKNOWN;
        }
        if (state.sold.containsKey(thing)) {
            return STATE;
        }
        int coins = town.things.get(thing).trueEnd() > state.day ? town.things.get(thing).v : 0;
        Map<Integer, Integer> sold = new TreeMap<>(state.sold);
        sold.put(thing, state.day);
        act(new State(state.day, state.asked, sold, state.coins + coins));
        return coins;
    }

    int undo() {
        if (before.isEmpty()) {
            return STATE;
        }
        state = before.removeLast();
        return before.size();
    }

    // ---- known

    /** Each world: for each thing whether it is early. */
    private List<boolean[]> allWorlds() {
        List<boolean[]> all = new ArrayList<>();
        all.add(new boolean[0]);
        for (int t = 0; t < town.things.size(); t++) {
            List<boolean[]> longer = new ArrayList<>();
            for (boolean[] w : all) {
                for (int e = 0; e < 2; e++) {
                    boolean[] one = java.util.Arrays.copyOf(w, t + 1);
                    one[t] = e == 1;
                    longer.add(one);
                }
            }
            all = longer;
        }
        all.removeIf(w -> town.links.stream().anyMatch(l -> w[l.i] && !w[l.j]));
        return all;
    }

    private long parts(List<boolean[]> worlds) {
        long sum = 0;
        for (boolean[] w : worlds) {
            sum += weight(w);
        }
        return sum;
    }

    private long weight(boolean[] w) {
        long product = 1;
        for (int t = 0; t < w.length; t++) {
            int x = town.things.get(t).x;
            product *= w[t] ? x : 10 - x;
        }
        return product;
    }

    private List<boolean[]> seenWorlds() {
        List<boolean[]> worlds = allWorlds();
        worlds.removeIf(w -> {
            for (int t = 0; t < w.length; t++) {
                Thing it = town.things.get(t);
                if (ended(t) ? it.end(w[t]) != it.trueEnd() : it.end(w[t]) <= state.day) {
                    return true;
                }
            }
            return false;
        });
        return worlds;
    }

    private List<boolean[]> held(int asker) {
        List<boolean[]> worlds = seenWorlds();
        int heard = heard(asker);
        for (int t = 0; t < town.things.size(); t++) {
            int thing = t;
            if ((heard >> t & 1) == 1) {
                worlds.removeIf(w -> w[thing] != town.things.get(thing).early);
            }
        }
        return worlds;
    }

    int worlds(int what) {
        return switch (what) {
            case 0 -> allWorlds().size();
            case 1 -> seenWorlds().size();
            case 2 -> (int) parts(allWorlds());
            case 3 -> (int) parts(seenWorlds());
            default -> OUTSIDE;
        };
    }

    int holds(int asker) {
        return noAsker(asker) ? UNKNOWN : held(asker).size();
    }

    private static int fraction(long above, long below, boolean upper) {
        BigInteger gcd = BigInteger.valueOf(above).gcd(BigInteger.valueOf(below));
        return BigInteger.valueOf(upper ? above : below).divide(gcd).intValueExact();
    }

    int likely(int asker, int thing, boolean upper) {
        if (noAsker(asker) || noThing(thing)) {
            return UNKNOWN;
        }
        List<boolean[]> held = held(asker);
        if (parts(held) == 0) {
            return STATE;
        }
        List<boolean[]> early = new ArrayList<>(held);
        early.removeIf(w -> !w[thing]);
        return fraction(parts(early), parts(held), upper);
    }

    private static int keptTo(Thing thing, int end, int from, int to) {
        int coins = 0;
        for (int day = from; day < to; day++) {
            if (end > day) {
                coins++;
            }
        }
        return end > to ? coins + thing.v : coins;
    }

    private long keptTo(List<boolean[]> worlds, int thing, int from, int to) {
        long sum = 0;
        for (boolean[] w : worlds) {
            Thing it = town.things.get(thing);
            sum += weight(w) * keptTo(it, it.end(w[thing]), from, to);
        }
        return sum;
    }

    private int wiseDay(List<boolean[]> worlds, int thing, int from) {
        int best = 9;
        for (int k = 9; k >= from; k--) {
            if (keptTo(worlds, thing, from, k) >= keptTo(worlds, thing, from, best)) {
                best = k;
            }
        }
        return best;
    }

    int wise(int asker, int thing) {
        if (noAsker(asker) || noThing(thing)) {
            return UNKNOWN;
        }
        if (parts(held(asker)) == 0 || state.sold.containsKey(thing)) {
            return STATE;
        }
        return wiseDay(held(asker), thing, state.day);
    }

    // ---- to ask

    private Map<Integer, List<boolean[]>> byEnds(List<boolean[]> worlds, int set) {
        Map<Integer, List<boolean[]>> groups = new HashMap<>();
        for (boolean[] w : worlds) {
            int key = 0;
            for (int t = 0; t < w.length; t++) {
                if ((set >> t & 1) == 1 && w[t]) {
                    key |= 1 << t;
                }
            }
            groups.computeIfAbsent(key, k -> new ArrayList<>()).add(w);
        }
        return groups;
    }

    private long worthTimesParts(int set) {
        long sum = 0;
        for (List<boolean[]> group : byEnds(seenWorlds(), set).values()) {
            for (int t = 0; t < town.things.size(); t++) {
                if (!state.sold.containsKey(t)) {
                    sum += keptTo(group, t, state.day, wiseDay(group, t, state.day));
                }
            }
        }
        return sum;
    }

    private boolean noParts() {
        return parts(seenWorlds()) == 0;
    }

    int worth(int things, boolean upper) {
        if (things < 0 || things >= 1 << town.things.size()) {
            return OUTSIDE;
        }
        return noParts() ? STATE : fraction(worthTimesParts(things), parts(seenWorlds()), upper);
    }

    /** All ways in which some askers ask, each of another thing or of nothing, the first one first. */
    private List<int[]> ways(List<Integer> askers) {
        List<int[]> ways = new ArrayList<>();
        int[] way = new int[town.askers.size()];
        java.util.Arrays.fill(way, NONE);
        addWays(askers, 0, way, ways);
        return ways;
    }

    private void addWays(List<Integer> askers, int at, int[] way, List<int[]> ways) {
        if (at == askers.size()) {
            ways.add(way.clone());
            return;
        }
        int asker = askers.get(at);
        for (int t = town.askers.get(asker).m; t <= town.askers.get(asker).n; t++) {
            if ((setOf(way) >> t & 1) == 0) {
                way[asker] = t;
                addWays(askers, at + 1, way, ways);
                way[asker] = NONE;
            }
        }
        addWays(askers, at + 1, way, ways);
    }

    private static int setOf(int[] way) {
        int set = 0;
        for (int t : way) {
            if (t != NONE) {
                set |= 1 << t;
            }
        }
        return set;
    }

    private List<Integer> idle() {
        List<Integer> idle = new ArrayList<>();
        for (int asker = 0; asker < town.askers.size(); asker++) {
            if (!state.asked.containsKey(asker)) {
                idle.add(asker);
            }
        }
        return idle;
    }

    private int best(List<Integer> askers, long[] worths) {
        List<Integer> sets = new ArrayList<>();
        for (int[] way : ways(askers)) {
            sets.add(setOf(way));
        }
        sets.sort((s, t) -> {
            if (worths[s] != worths[t]) {
                return Long.compare(worths[t], worths[s]);
            }
            int fewer = Integer.compare(Integer.bitCount(s), Integer.bitCount(t));
            return fewer != 0 ? fewer : Integer.compare(s, t);
        });
        return sets.get(0);
    }

    private long[] worths() {
        long[] worths = new long[1 << town.things.size()];
        for (int set = 0; set < worths.length; set++) {
            worths[set] = worthTimesParts(set);
        }
        return worths;
    }

    int toAsk() {
        return noParts() ? STATE : best(idle(), worths());
    }

    int by(int asker) {
        if (noAsker(asker)) {
            return UNKNOWN;
        }
        if (noParts()) {
            return STATE;
        }
        int set = toAsk();
        for (int[] way : ways(idle())) {
            if (setOf(way) == set) {
                return way[asker];
            }
        }
        throw new IllegalStateException("no way to ask");
    }

    int fewest() {
        List<boolean[]> worlds = seenWorlds();
        for (int size = 0; size <= 4; size++) {
            for (int set = 0; set < 1 << town.things.size(); set++) {
                if (Integer.bitCount(set) == size && byEnds(worlds, set).size() == worlds.size()) {
                    return set;
                }
            }
        }
        throw new IllegalStateException("worlds alike");
    }

    int share(int asker, boolean upper) {
        if (noAsker(asker)) {
            return UNKNOWN;
        }
        if (noParts()) {
            return STATE;
        }
        if (state.asked.containsKey(asker)) {
            return upper ? 0 : 1;
        }
        List<List<Integer>> orders = new ArrayList<>();
        addOrders(idle(), 0, orders);
        long[] worths = worths();
        long sum = 0;
        for (List<Integer> order : orders) {
            int at = order.indexOf(asker);
            sum += worths[best(order.subList(0, at + 1), worths)] - worths[best(order.subList(0, at), worths)];
        }
        return fraction(sum, orders.size() * parts(seenWorlds()), upper);
    }

    private static void addOrders(List<Integer> row, int at, List<List<Integer>> orders) {
        if (at == row.size()) {
            orders.add(new ArrayList<>(row));
            return;
        }
        for (int i = at; i < row.size(); i++) {
            Collections.swap(row, at, i);
            addOrders(row, at + 1, orders);
            Collections.swap(row, at, i);
        }
    }

    // ---- she

    int see(int thing, int day) {
        if (noThing(thing)) {
            return UNKNOWN;
        }
        if (day < 0 || day > 9) {
            return OUTSIDE;
        }
        if (seen.size() == 6) {
            return FULL;
        }
        seen.add(new int[] {thing, day});
        return seen.size();
    }

    int unsee() {
        int was = seen.size();
        seen.clear();
        return was;
    }

    int which() {
        int bits = 0;
        for (int asked = 0; asked <= 4; asked++) {
            if (asked < 4 && noThing(asked)) {
                continue;
            }
            List<boolean[]> worlds = allWorlds();
            if (asked < 4) {
                int thing = asked;
                worlds.removeIf(w -> w[thing] != town.things.get(thing).early);
            }
            if (parts(worlds) == 0) {
                continue;
            }
            boolean fits = true;
            for (int[] sale : seen) {
                fits &= noThing(sale[0]) || wiseDay(worlds, sale[0], 0) == sale[1];
            }
            bits |= fits ? 1 << asked : 0;
        }
        return bits;
    }

    int judge(int n, int row) {
        if (n < 1 || n > 8 || row < 0 || String.valueOf(row).length() > n) {
            return OUTSIDE;
        }
        String figures = "0".repeat(n - String.valueOf(row).length()) + row;
        State now = state;
        LinkedList<State> acts = new LinkedList<>(before);
        int answer = NONE;
        for (int place = 0; place < n && answer == NONE; place++) {
            int figure = figures.charAt(place) - '0';
            boolean stands = figure == 4 ? day() >= 0 : figure < 4 && sell(figure) > 0;
            if (!stands) {
                answer = place;
            }
        }
        state = now;
        before.clear();
        before.addAll(acts);
        return answer;
    }

    long seed(long v) {
        long was = seed;
        seed = v;
        return was;
    }

    int year(int m) {
        if (m < 1 || m > 30) {
            return OUTSIDE;
        }
        int coins = 0;
        for (int time = 0; time < m; time++) {
            boolean[] early = new boolean[town.things.size()];
            for (int t = 0; t < early.length; t++) {
                seed = BigInteger.valueOf(seed).multiply(new BigInteger("6364136223846793005")).add(new BigInteger("1442695040888963407")).longValue();
                BigInteger unsigned = new BigInteger(Long.toUnsignedString(seed));
                early[t] = unsigned.shiftRight(33).mod(BigInteger.TEN).intValueExact() < town.things.get(t).x;
            }
            for (boolean changed = true; changed; ) {
                changed = false;
                for (Link link : town.links) {
                    if (early[link.i] && !early[link.j]) {
                        early[link.j] = true;
                        changed = true;
                        break;
                    }
                }
            }
            for (int t = 0; t < early.length; t++) {
                Thing it = town.things.get(t);
                coins += keptTo(it, it.end(early[t]), 0, wiseDay(allWorlds(), t, 0));
            }
        }
        return coins;
    }

    // ---- slots

    int keep(int slot) {
        if (slot < 0 || slot > 1) {
            return UNKNOWN;
        }
        kept[slot] = state;
        return state.coins;
    }

    int again(int slot) {
        if (slot < 0 || slot > 1) {
            return UNKNOWN;
        }
        if (kept[slot] == null) {
            return STATE;
        }
        state = kept[slot];
        before.clear();
        return state.coins;
    }

    int count(int what) {
        int bits = 0;
        switch (what) {
            case 0: return text.length();
            case 1: return town.things.size();
            case 2: return town.askers.size();
            case 3: return town.links.size();
            case 4: return state.day;
            case 5: return state.coins;
            case 6:
                for (int t : state.sold.keySet()) {
                    bits |= 1 << t;
                }
                return bits;
            case 7:
                for (int t = 0; t < town.things.size(); t++) {
                    bits |= ended(t) ? 1 << t : 0;
                }
                return bits;
            case 8:
                for (int t : state.asked.values()) {
                    bits |= 1 << t;
                }
                return bits;
            case 9: return before.size();
            case 10: return seen.size();
            default: return OUTSIDE;
        }
    }
}
