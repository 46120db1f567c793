/**
 * A town in which each asker may ask the clock once how long a thing lasts.
 *
 * A world is a number whose bit i is set if thing i ends late in it; a set of things, of askers
 * or of worlds is an int with a bit for each. Nothing is made after the constructor has ended.
 */
public final class ClockOnce {
    public static final int UNKNOWN = -1, OUTSIDE = -2, STATE = -3, FULL = -4, NONE = -9;

    private static final int MOST_LETTERS = 48;
    private static final int MOST_THINGS = 4;
    private static final int MOST_WORLDS = 16;
    private static final int MOST_ASKERS = 4;
    private static final int MOST_LINKS = 3;
    private static final int MOST_ACTS = 16;
    private static final int MOST_SEEN = 6;
    private static final int MOST_FIGURES = 8;
    private static final int MOST_TIMES = 30;
    private static final int MOST_SLOTS = 2;
    private static final int LAST_DAY = 9;
    private static final int DAY_FIGURE = 4;
    private static final int ASKED_OF_NONE = 16;
    private static final long SEED_FACTOR = 6364136223846793005L;
    private static final long SEED_STEP = 1442695040888963407L;

    private final int[] letters = new int[MOST_LETTERS];
    private int length = 0;
    private final Reader reader = new Reader();
    private Town town = new Town();
    private Town draft = new Town();
    private final Life life = new Life();
    private final Acts acts = new Acts();
    private final Life[] slots = new Life[MOST_SLOTS];
    private final Sales seen = new Sales();
    private final Asking asking = new Asking();
    private final int[] wiseDays = new int[MOST_THINGS];
    private long seed = 0L;

    public ClockOnce() {
        for (int slot = 0; slot < MOST_SLOTS; slot++) {
            slots[slot] = new Life();
        }
    }

    // ---- the town

    public int write(int letter) {
        if (letter < 0 || letter > 255) {
            return OUTSIDE;
        }
        if (length >= MOST_LETTERS) {
            return FULL;
        }
        letters[length] = letter;
        length++;
        return length;
    }

    public int wipe() {
        int was = length;
        length = 0;
        return was;
    }

    public int fault() {
        return readText();
    }

    public int town() {
        if (readText() != NONE) {
            return STATE;
        }
        Town old = town;
        town = draft;
        draft = old;
        town.weighWorlds();
        life.startAnew();
        acts.size = 0;
        forgetKept();
        return 10 * town.things + town.askers;
    }

    public int thing(int thing, int what) {
        if (!town.hasThing(thing)) {
            return UNKNOWN;
        }
        switch (what) {
            case 0:
                return town.early[thing];
            case 1:
                return town.late[thing];
            case 2:
                return town.tenths[thing];
            case 3:
                return town.coins[thing];
            case 4:
                return life.soldOn[thing];
            case 5:
                return hasEnded(thing) ? 1 : 0;
            case 6:
                return knownEnd(thing);
            default:
                return OUTSIDE;
        }
    }

    public int asker(int asker, int what) {
        if (!town.hasAsker(asker)) {
            return UNKNOWN;
        }
        switch (what) {
            case 0:
                return town.first[asker];
            case 1:
                return town.last[asker];
            case 2:
                return life.askedOf[asker];
            case 3:
                return life.heardBy(asker);
            default:
                return OUTSIDE;
        }
    }

    // ---- acts

    public int ask(int asker, int thing) {
        if (!town.hasAsker(asker) || !town.hasThing(thing)) {
            return UNKNOWN;
        }
        if (thing < town.first[asker] || thing > town.last[asker]) {
            return OUTSIDE;
        }
        if (life.askedOf[asker] != NONE) {
            return STATE;
        }
        life.askedOf[asker] = thing;
        acts.add(Acts.ASKED, asker, 0);
        return town.trueEnd(thing);
    }

    public int day() {
        if (life.day >= LAST_DAY) {
            return STATE;
        }
        int gain = 0;
        for (int thing = 0; thing < town.things; thing++) {
            if (life.soldOn[thing] == NONE && !hasEnded(thing)) {
                gain++;
            }
        }
        life.day++;
        life.coins += gain;
        acts.add(Acts.DAY, 0, gain);
        return gain;
    }

    public int sell(int thing) {
        if (!town.hasThing(thing)) {
            return UNKNOWN;
        }
        if (life.soldOn[thing] != NONE) {
            return STATE;
        }
        int gain = hasEnded(thing) ? 0 : town.coins[thing];
        life.soldOn[thing] = life.day;
        life.coins += gain;
        acts.add(Acts.SOLD, thing, gain);
        return gain;
    }

    public int undo() {
        if (acts.size <= 0) {
            return STATE;
        }
        acts.takeBackLast(life);
        return acts.size;
    }

    // ---- known

    public int worlds(int what) {
        switch (what) {
            case 0:
                return Integer.bitCount(town.allWorlds);
            case 1:
                return Integer.bitCount(town.worldsSeenOn(life.day));
            case 2:
                return town.partsOf(town.allWorlds);
            case 3:
                return town.partsOf(town.worldsSeenOn(life.day));
            default:
                return OUTSIDE;
        }
    }

    public int holds(int asker) {
        if (!town.hasAsker(asker)) {
            return UNKNOWN;
        }
        return Integer.bitCount(heldWorlds(asker));
    }

    public int likely(int asker, int thing, boolean upper) {
        if (!town.hasAsker(asker) || !town.hasThing(thing)) {
            return UNKNOWN;
        }
        int held = heldWorlds(asker);
        int parts = town.partsOf(held);
        if (parts == 0) {
            return STATE;
        }
        return fraction(town.partsOfEarly(held, thing), parts, upper);
    }

    public int wise(int asker, int thing) {
        if (!town.hasAsker(asker) || !town.hasThing(thing)) {
            return UNKNOWN;
        }
        int held = heldWorlds(asker);
        if (town.partsOf(held) == 0 || life.soldOn[thing] != NONE) {
            return STATE;
        }
        return town.wiseDay(held, thing, life.day);
    }

    // ---- to ask

    public int worth(int things, boolean upper) {
        if (things < 0 || things >= 1 << town.things) {
            return OUTSIDE;
        }
        int worldsSeen = town.worldsSeenOn(life.day);
        int parts = town.partsOf(worldsSeen);
        if (parts == 0) {
            return STATE;
        }
        return fraction(asking.worthOf(town, life, worldsSeen, things), parts, upper);
    }

    public int toAsk() {
        if (partsSeen() == 0) {
            return STATE;
        }
        asking.findWorths(town, life);
        return asking.bestSet(town, life);
    }

    public int by(int asker) {
        if (!town.hasAsker(asker)) {
            return UNKNOWN;
        }
        if (partsSeen() == 0) {
            return STATE;
        }
        asking.findWorths(town, life);
        return asking.thingAskedBy(town, life, asker);
    }

    public int fewest() {
        int worldsSeen = town.worldsSeenOn(life.day);
        int best = (1 << town.things) - 1;
        for (int set = 0; set < 1 << town.things; set++) {
            if (Integer.bitCount(set) < Integer.bitCount(best) && town.tellsApart(worldsSeen, set)) {
                best = set;
            }
        }
        return best;
    }

    public int share(int asker, boolean upper) {
        if (!town.hasAsker(asker)) {
            return UNKNOWN;
        }
        int parts = partsSeen();
        if (parts == 0) {
            return STATE;
        }
        int idle = life.idleAskers(town);
        if ((idle >> asker & 1) == 0) {
            return fraction(0, 1, upper);
        }
        asking.findWorths(town, life);
        int above = asking.gainInAllOrders(town, idle, asker);
        return fraction(above, Asking.orders(Integer.bitCount(idle)) * parts, upper);
    }

    // ---- she

    public int see(int thing, int day) {
        if (!town.hasThing(thing)) {
            return UNKNOWN;
        }
        if (day < 0 || day > LAST_DAY) {
            return OUTSIDE;
        }
        if (seen.size >= MOST_SEEN) {
            return FULL;
        }
        seen.add(thing, day);
        return seen.size;
    }

    public int unsee() {
        int was = seen.size;
        seen.size = 0;
        return was;
    }

    public int which() {
        int can = seen.fits(town, town.allWorlds) ? ASKED_OF_NONE : 0;
        for (int thing = 0; thing < town.things; thing++) {
            int known = town.worldsLike(town.allWorlds, 1 << thing, town.truth);
            if (town.partsOf(known) != 0 && seen.fits(town, known)) {
                can |= 1 << thing;
            }
        }
        return can;
    }

    public int judge(int n, int row) {
        if (n < 1 || n > MOST_FIGURES || row < 0 || row >= powerOfTen(n)) {
            return OUTSIDE;
        }
        int today = life.day;
        int sold = life.soldThings(town);
        for (int place = 0; place < n; place++) {
            int figure = figureAt(row, n - 1 - place);
            if (figure == DAY_FIGURE && today < LAST_DAY) {
                today++;
            } else if (canSellWell(figure, sold, today)) {
                sold |= 1 << figure;
            } else {
                return place;
            }
        }
        return NONE;
    }

    public long seed(long v) {
        long was = seed;
        seed = v;
        return was;
    }

    public int year(int m) {
        if (m < 1 || m > MOST_TIMES) {
            return OUTSIDE;
        }
        for (int thing = 0; thing < town.things; thing++) {
            wiseDays[thing] = town.wiseDay(town.allWorlds, thing, 0);
        }
        int sum = 0;
        for (int time = 0; time < m; time++) {
            int world = drawWorld();
            for (int thing = 0; thing < town.things; thing++) {
                sum += town.coinsKept(thing, town.endIn(world, thing), 0, wiseDays[thing]);
            }
        }
        return sum;
    }

    // ---- slots

    public int keep(int slot) {
        Life kept = slotOf(slot);
        if (kept == null) {
            return UNKNOWN;
        }
        kept.becomeLike(life);
        kept.isKept = true;
        return life.coins;
    }

    public int again(int slot) {
        Life kept = slotOf(slot);
        if (kept == null) {
            return UNKNOWN;
        }
        if (!kept.isKept) {
            return STATE;
        }
        life.becomeLike(kept);
        acts.size = 0;
        return life.coins;
    }

    public int count(int what) {
        switch (what) {
            case 0:
                return length;
            case 1:
                return town.things;
            case 2:
                return town.askers;
            case 3:
                return town.links;
            case 4:
                return life.day;
            case 5:
                return life.coins;
            case 6:
                return life.soldThings(town);
            case 7:
                return town.thingsEndedOn(life.day);
            case 8:
                return life.askedThings();
            case 9:
                return acts.size;
            case 10:
                return seen.size;
            default:
                return OUTSIDE;
        }
    }

    // The draft is the text's town only if the answer is NONE.
    private int readText() {
        reader.startAnew(draft);
        for (int place = 0; place < length; place++) {
            if (!reader.takes(letters[place], draft)) {
                return place;
            }
        }
        return reader.isAtEnd() ? NONE : length;
    }

    private Life slotOf(int slot) {
        return slot < 0 || slot >= slots.length ? null : slots[slot];
    }

    private void forgetKept() {
        for (int slot = 0; slot < slots.length; slot++) {
            Life kept = slotOf(slot);
            if (kept != null) {
                kept.isKept = false;
            }
        }
    }

    private boolean hasEnded(int thing) {
        return town.trueEnd(thing) <= life.day;
    }

    private int knownEnd(int thing) {
        boolean wasAsked = (life.askedThings() >> thing & 1) != 0;
        return hasEnded(thing) || wasAsked ? town.trueEnd(thing) : NONE;
    }

    private int partsSeen() {
        return town.partsOf(town.worldsSeenOn(life.day));
    }

    private int heldWorlds(int asker) {
        return town.worldsLike(town.worldsSeenOn(life.day), life.heardBy(asker), town.truth);
    }

    private boolean canSellWell(int thing, int sold, int today) {
        return town.hasThing(thing) && (sold >> thing & 1) == 0 && town.trueEnd(thing) > today;
    }

    private int drawWorld() {
        int world = 0;
        for (int thing = 0; thing < town.things; thing++) {
            seed = seed * SEED_FACTOR + SEED_STEP;
            if ((seed >>> 33) % 10 >= town.tenths[thing]) {
                world |= 1 << thing;
            }
        }
        return town.withLinksHeld(world);
    }

    private static int powerOfTen(int n) {
        int power = 1;
        for (int i = 0; i < n; i++) {
            power *= 10;
        }
        return power;
    }

    private static int figureAt(int row, int placeFromEnd) {
        int rest = row;
        for (int i = 0; i < placeFromEnd; i++) {
            rest /= 10;
        }
        return rest % 10;
    }

    private static int fraction(int above, int below, boolean upper) {
        int divisor = greatestDivisor(above, below);
        if (divisor <= 0) {
            return 0;
        }
        return (upper ? above : below) / divisor;
    }

    private static int greatestDivisor(int one, int other) {
        int big = one;
        int small = other;
        // Two ints take fewer than 50 rounds.
        for (int round = 0; round < 64 && small != 0; round++) {
            int rest = big % small;
            big = small;
            small = rest;
        }
        return big;
    }

    /** What the town's text tells, and its worlds. */
    private static final class Town {
        final int[] early = new int[MOST_THINGS];
        final int[] late = new int[MOST_THINGS];
        final int[] tenths = new int[MOST_THINGS];
        final int[] coins = new int[MOST_THINGS];
        int things = 0;
        int truth = 0;
        final int[] first = new int[MOST_ASKERS];
        final int[] last = new int[MOST_ASKERS];
        int askers = 0;
        final int[] from = new int[MOST_LINKS];
        final int[] to = new int[MOST_LINKS];
        int links = 0;
        final int[] parts = new int[MOST_WORLDS];
        int allWorlds = 0;

        Town() {
            weighWorlds();
        }

        void empty() {
            things = 0;
            truth = 0;
            askers = 0;
            links = 0;
        }

        boolean hasThing(int thing) {
            return thing >= 0 && thing < things;
        }

        boolean hasAsker(int asker) {
            return asker >= 0 && asker < askers;
        }

        boolean isRoomForThing() {
            return things < MOST_THINGS;
        }

        boolean isRoomForAsker() {
            return things > 0 && askers < MOST_ASKERS;
        }

        boolean isRoomForLink() {
            if (links >= MOST_LINKS) {
                return false;
            }
            for (int thing = 0; thing < things; thing++) {
                if (canLinkFrom(thing)) {
                    return true;
                }
            }
            return false;
        }

        boolean canLinkFrom(int one) {
            for (int other = 0; other < things; other++) {
                if (canLink(one, other)) {
                    return true;
                }
            }
            return false;
        }

        boolean canLink(int one, int other) {
            if (!hasThing(one) || !hasThing(other) || one == other) {
                return false;
            }
            for (int link = 0; link < links; link++) {
                if (from[link] == one && to[link] == other) {
                    return false;
                }
            }
            return !isBroken(one, other, truth);
        }

        void addThing(int[] figures) {
            if (!isRoomForThing() || figures.length < Reader.MOST_PLACES) {
                return;
            }
            early[things] = figures[0];
            late[things] = figures[1];
            tenths[things] = figures[2];
            coins[things] = figures[3];
            truth |= figures[4] << things;
            things++;
        }

        void addAsker(int firstThing, int lastThing) {
            if (askers < MOST_ASKERS) {
                first[askers] = firstThing;
                last[askers] = lastThing;
                askers++;
            }
        }

        void addLink(int one, int other) {
            if (links < MOST_LINKS) {
                from[links] = one;
                to[links] = other;
                links++;
            }
        }

        boolean isBroken(int one, int other, int world) {
            return (world >> one & 1) == 0 && (world >> other & 1) != 0;
        }

        int firstBrokenLink(int world) {
            for (int link = 0; link < links; link++) {
                if (isBroken(from[link], to[link], world)) {
                    return link;
                }
            }
            return NONE;
        }

        int withLinksHeld(int world) {
            int mended = world;
            // Each round makes one more thing early.
            for (int round = 0; round < MOST_THINGS; round++) {
                int link = firstBrokenLink(mended);
                if (link < 0) {
                    return mended;
                }
                mended &= ~(1 << to[link]);
            }
            return mended;
        }

        void weighWorlds() {
            allWorlds = 0;
            for (int world = 0; world < 1 << things; world++) {
                if (firstBrokenLink(world) == NONE) {
                    allWorlds |= 1 << world;
                }
                int weight = 1;
                for (int thing = 0; thing < things; thing++) {
                    weight *= isLate(world, thing) ? 10 - tenths[thing] : tenths[thing];
                }
                parts[world] = weight;
            }
        }

        boolean isLate(int world, int thing) {
            return (world >> thing & 1) != 0;
        }

        int endIn(int world, int thing) {
            return isLate(world, thing) ? late[thing] : early[thing];
        }

        int trueEnd(int thing) {
            return endIn(truth, thing);
        }

        int thingsEndedOn(int today) {
            int ended = 0;
            for (int thing = 0; thing < things; thing++) {
                if (trueEnd(thing) <= today) {
                    ended |= 1 << thing;
                }
            }
            return ended;
        }

        int worldsSeenOn(int today) {
            int ended = thingsEndedOn(today);
            int like = worldsLike(allWorlds, ended, truth);
            int found = 0;
            for (int world = 0; world < 1 << things; world++) {
                if ((like >> world & 1) != 0 && othersEndAfter(world, ended, today)) {
                    found |= 1 << world;
                }
            }
            return found;
        }

        private boolean othersEndAfter(int world, int ended, int today) {
            for (int thing = 0; thing < things; thing++) {
                if ((ended >> thing & 1) == 0 && endIn(world, thing) <= today) {
                    return false;
                }
            }
            return true;
        }

        // Those of some worlds in which a set of things ends as in a model world.
        int worldsLike(int worlds, int set, int model) {
            int found = 0;
            for (int world = 0; world < 1 << things; world++) {
                if ((worlds >> world & 1) != 0 && ((world ^ model) & set) == 0) {
                    found |= 1 << world;
                }
            }
            return found;
        }

        boolean tellsApart(int worlds, int set) {
            for (int model = 0; model < 1 << things; model++) {
                if (Integer.bitCount(worldsLike(worlds, set, model)) > 1) {
                    return false;
                }
            }
            return true;
        }

        int partsOf(int worlds) {
            int sum = 0;
            for (int world = 0; world < 1 << things; world++) {
                if ((worlds >> world & 1) != 0) {
                    sum += parts[world];
                }
            }
            return sum;
        }

        int partsOfEarly(int worlds, int thing) {
            int sum = 0;
            for (int world = 0; world < 1 << things; world++) {
                if ((worlds >> world & 1) != 0 && !isLate(world, thing)) {
                    sum += parts[world];
                }
            }
            return sum;
        }

        int coinsKept(int thing, int end, int fromDay, int toDay) {
            int daysPaid = (end < toDay ? end : toDay) - fromDay;
            if (end > toDay) {
                return daysPaid + coins[thing];
            }
            return daysPaid > 0 ? daysPaid : 0;
        }

        // What keeping gives in all of some worlds together, each taken as often as it has parts.
        private int partsKept(int thing, int ofEarly, int ofLate, int fromDay, int toDay) {
            return ofEarly * coinsKept(thing, early[thing], fromDay, toDay)
                + ofLate * coinsKept(thing, late[thing], fromDay, toDay);
        }

        private int bestDay(int thing, int ofEarly, int ofLate, int fromDay) {
            int best = fromDay;
            int most = -1;
            for (int toDay = fromDay; toDay <= LAST_DAY; toDay++) {
                int gain = partsKept(thing, ofEarly, ofLate, fromDay, toDay);
                if (gain > most) {
                    most = gain;
                    best = toDay;
                }
            }
            return best;
        }

        int wiseDay(int worlds, int thing, int fromDay) {
            int ofEarly = partsOfEarly(worlds, thing);
            return bestDay(thing, ofEarly, partsOf(worlds) - ofEarly, fromDay);
        }

        int partsKeptWisely(int worlds, int thing, int fromDay) {
            int ofEarly = partsOfEarly(worlds, thing);
            int ofLate = partsOf(worlds) - ofEarly;
            return partsKept(thing, ofEarly, ofLate, fromDay, bestDay(thing, ofEarly, ofLate, fromDay));
        }
    }

    /** Takes a text letter by letter, as long as some town begins like it. */
    private static final class Reader {
        static final int MOST_PLACES = 5;

        private boolean begun = false;
        private int part = 0;
        private int place = 0;
        private final int[] figures = new int[MOST_PLACES];

        void startAnew(Town draft) {
            begun = false;
            part = 0;
            draft.empty();
        }

        boolean isAtEnd() {
            return begun && part == 0;
        }

        boolean takes(int letter, Town draft) {
            if (!begun) {
                begun = letter == 'C';
                return begun;
            }
            if (part == 0) {
                part = mayOpen(letter, draft) ? letter : 0;
                place = 0;
                return part != 0;
            }
            return takesFigure(letter - '0', draft);
        }

        private boolean mayOpen(int letter, Town draft) {
            switch (letter) {
                case 'T':
                    return draft.isRoomForThing();
                case 'A':
                    return draft.isRoomForAsker();
                case 'L':
                    return draft.isRoomForLink();
                default:
                    return false;
            }
        }

        private boolean takesFigure(int figure, Town draft) {
            if (figure < 0 || figure > 9 || place < 0 || place >= MOST_PLACES || !mayFollow(figure, draft)) {
                return false;
            }
            figures[place] = figure;
            place++;
            if (place == (part == 'T' ? MOST_PLACES : 2)) {
                closePart(draft);
            }
            return true;
        }

        private boolean mayFollow(int figure, Town draft) {
            switch (part) {
                case 'T':
                    return mayTellThing(figure);
                case 'A':
                    return draft.hasThing(figure) && (place == 0 || figure >= figures[0]);
                default:
                    return place == 0 ? draft.canLinkFrom(figure) : draft.canLink(figures[0], figure);
            }
        }

        private boolean mayTellThing(int figure) {
            switch (place) {
                case 0:
                    return figure >= 1 && figure <= 8;
                case 1:
                    return figure > figures[0];
                case 2:
                    return true;
                case 3:
                    return figure >= 1;
                default:
                    return figure <= 1;
            }
        }

        private void closePart(Town draft) {
            if (part == 'T') {
                draft.addThing(figures);
            } else if (part == 'A') {
                draft.addAsker(figures[0], figures[1]);
            } else {
                draft.addLink(figures[0], figures[1]);
            }
            part = 0;
        }
    }

    /** The day, what was asked and sold, and the coins. */
    private static final class Life {
        int day = 0;
        int coins = 0;
        final int[] askedOf = new int[MOST_ASKERS];
        final int[] soldOn = new int[MOST_THINGS];
        boolean isKept = false;

        Life() {
            startAnew();
        }

        void startAnew() {
            day = 0;
            coins = 0;
            for (int asker = 0; asker < MOST_ASKERS; asker++) {
                askedOf[asker] = NONE;
            }
            for (int thing = 0; thing < MOST_THINGS; thing++) {
                soldOn[thing] = NONE;
            }
        }

        void becomeLike(Life other) {
            day = other.day;
            coins = other.coins;
            System.arraycopy(other.askedOf, 0, askedOf, 0, MOST_ASKERS);
            System.arraycopy(other.soldOn, 0, soldOn, 0, MOST_THINGS);
        }

        int askedThings() {
            int asked = 0;
            for (int asker = 0; asker < MOST_ASKERS; asker++) {
                asked |= askedOfBit(asker);
            }
            return asked;
        }

        int heardBy(int asker) {
            return askedOfBit(asker - 1) | askedOfBit(asker) | askedOfBit(asker + 1);
        }

        private int askedOfBit(int asker) {
            if (asker < 0 || asker >= MOST_ASKERS || askedOf[asker] == NONE) {
                return 0;
            }
            return 1 << askedOf[asker];
        }

        int idleAskers(Town town) {
            int idle = 0;
            for (int asker = 0; asker < town.askers; asker++) {
                if (askedOf[asker] == NONE) {
                    idle |= 1 << asker;
                }
            }
            return idle;
        }

        int soldThings(Town town) {
            int sold = 0;
            for (int thing = 0; thing < town.things; thing++) {
                if (soldOn[thing] != NONE) {
                    sold |= 1 << thing;
                }
            }
            return sold;
        }
    }

    /** The row of acts, of which the last can be taken back. */
    private static final class Acts {
        static final int ASKED = 0;
        static final int DAY = 1;
        static final int SOLD = 2;

        private final int[] kinds = new int[MOST_ACTS];
        private final int[] whos = new int[MOST_ACTS];
        private final int[] gains = new int[MOST_ACTS];
        int size = 0;

        void add(int kind, int who, int gain) {
            if (size >= MOST_ACTS) {
                forgetFirst();
            }
            kinds[size] = kind;
            whos[size] = who;
            gains[size] = gain;
            size++;
        }

        private void forgetFirst() {
            size = MOST_ACTS - 1;
            System.arraycopy(kinds, 1, kinds, 0, size);
            System.arraycopy(whos, 1, whos, 0, size);
            System.arraycopy(gains, 1, gains, 0, size);
        }

        void takeBackLast(Life life) {
            if (size <= 0) {
                return;
            }
            size--;
            life.coins -= gains[size];
            if (kinds[size] == DAY) {
                life.day--;
            } else if (kinds[size] == SOLD) {
                life.soldOn[whos[size]] = NONE;
            } else {
                life.askedOf[whos[size]] = NONE;
            }
        }
    }

    /** What was seen that she sold. */
    private static final class Sales {
        private final int[] things = new int[MOST_SEEN];
        private final int[] days = new int[MOST_SEEN];
        int size = 0;

        void add(int thing, int day) {
            if (size < MOST_SEEN) {
                things[size] = thing;
                days[size] = day;
                size++;
            }
        }

        boolean fits(Town town, int worldsKnown) {
            for (int sale = 0; sale < size; sale++) {
                if (town.hasThing(things[sale]) && town.wiseDay(worldsKnown, things[sale], 0) != days[sale]) {
                    return false;
                }
            }
            return true;
        }
    }

    /** Which sets of things are best asked of, by whom, and what that is worth. */
    private static final class Asking {
        private static final int[] ORDERS = {1, 1, 2, 6, 24};

        private final int[] worths = new int[MOST_WORLDS];

        static int orders(int askers) {
            return askers < 0 || askers >= ORDERS.length ? 1 : ORDERS[askers];
        }

        // The worth, times the parts of the worlds that all see.
        int worthOf(Town town, Life life, int worldsSeen, int set) {
            int sold = life.soldThings(town);
            int sum = 0;
            for (int model = 0; model < 1 << town.things; model++) {
                int known = (model & ~set) == 0 ? town.worldsLike(worldsSeen, set, model) : 0;
                for (int thing = 0; thing < town.things && known != 0; thing++) {
                    if ((sold >> thing & 1) == 0) {
                        sum += town.partsKeptWisely(known, thing, life.day);
                    }
                }
            }
            return sum;
        }

        // What stands below needs the worths as they are now.
        void findWorths(Town town, Life life) {
            int worldsSeen = town.worldsSeenOn(life.day);
            for (int set = 0; set < 1 << town.things; set++) {
                worths[set] = worthOf(town, life, worldsSeen, set);
            }
        }

        // All sets that some askers can ask of, each of one thing at most: a bit for each set.
        private int setsFor(Town town, int askers) {
            int sets = 1;
            for (int asker = 0; asker < town.askers; asker++) {
                if ((askers >> asker & 1) != 0) {
                    sets = setsWithOneMore(town, sets, asker);
                }
            }
            return sets;
        }

        private int setsWithOneMore(Town town, int sets, int asker) {
            int more = sets;
            for (int set = 0; set < 1 << town.things; set++) {
                boolean isThere = (sets >> set & 1) != 0;
                for (int thing = town.first[asker]; isThere && thing <= town.last[asker]; thing++) {
                    more |= 1 << (set | 1 << thing);
                }
            }
            return more;
        }

        private int bestOf(Town town, int sets) {
            int best = 0;
            for (int set = 1; set < 1 << town.things; set++) {
                boolean isBetter = worths[set] > worths[best]
                    || worths[set] == worths[best] && Integer.bitCount(set) < Integer.bitCount(best);
                if ((sets >> set & 1) != 0 && isBetter) {
                    best = set;
                }
            }
            return best;
        }

        int bestSet(Town town, Life life) {
            return bestOf(town, setsFor(town, life.idleAskers(town)));
        }

        int thingAskedBy(Town town, Life life, int asker) {
            int left = bestSet(town, life);
            int later = life.idleAskers(town);
            for (int one = 0; one <= asker; one++) {
                boolean isIdle = (later >> one & 1) != 0;
                later &= ~(1 << one);
                int thing = isIdle ? firstThingFor(town, one, left, setsFor(town, later)) : NONE;
                if (one == asker) {
                    return thing;
                }
                if (thing != NONE) {
                    left &= ~(1 << thing);
                }
            }
            return NONE;
        }

        private int firstThingFor(Town town, int asker, int left, int setsOfLater) {
            for (int thing = town.first[asker]; thing <= town.last[asker]; thing++) {
                int rest = left & ~(1 << thing);
                if (rest != left && (setsOfLater >> rest & 1) != 0) {
                    return thing;
                }
            }
            return NONE;
        }

        // By how much the asker's coming raises the best worth, over all orders of those who come.
        int gainInAllOrders(Town town, int idle, int asker) {
            int all = Integer.bitCount(idle);
            int sum = 0;
            for (int come = 0; come < 1 << town.askers; come++) {
                if ((come & ~idle) == 0 && (come >> asker & 1) == 0) {
                    int before = Integer.bitCount(come);
                    int without = worths[bestOf(town, setsFor(town, come))];
                    int with = worths[bestOf(town, setsFor(town, come | 1 << asker))];
                    sum += orders(before) * orders(all - before - 1) * (with - without);
                }
            }
            return sum;
        }
    }
}
