import java.util.Arrays;

/**
 * Two shops that may sell below cost, and the people who walk to them: ../shared/DOC.md says what
 * each call answers. Words in capitals in the comments are that document's terms.
 */
public final class SugarBelow {
    public static final int UNKNOWN = -1, OUTSIDE = -2, STATE = -3, FULL = -4, NO = -5, NONE = -6;
    public static final long LOST = -1000000000000000000L;

    private static final int SHOPS = 2, THINGS = 4, STEPS = 3, SORTS = 5, SLIPS = 30, SIGNS = 40;
    private static final int MOST_ROWS = 81, IMAGES = 2;
    private static final int TOP = 99, TOP_HEAD = 3, TOP_SHELF = 6, TOP_WEEKS = 12, TOP_BITS = 15;
    private static final int TOP_WEEK_BITS = (1 << TOP_WEEKS) - 1;
    private static final int WAY_BOTH = 1, WAY_BELOW = 2;
    /** Where a SORT GOES: bit 0 for SHOP 0, bit 1 for SHOP 1. */
    private static final int NOWHERE = 0, TO_FIRST = 1, TO_SECOND = 2, TO_BOTH = 3;

    private final Town town;
    private final Town[] images;
    private final boolean[] kept;
    private final Pad pad;
    /** A copy of the town's goods on which "what if" is tried, so that no question changes the town. */
    private final Goods trial;
    private final Walks walks;
    private final Prices prices;
    private final Duel duel;
    private final Weeks pantry;

    public SugarBelow() {
        town = new Town();
        images = new Town[IMAGES];
        for (int n = 0; n < IMAGES; n++) {
            images[n] = new Town();
        }
        kept = new boolean[IMAGES];
        pad = new Pad();
        trial = new Goods();
        walks = new Walks(trial, town.people);
        prices = new Prices(trial, town.people, walks);
        duel = new Duel(trial, walks);
        pantry = new Weeks(town.goods, town.people);
    }

    // ---- 1 the town

    public int thing(int cost, int other, int price) {
        if (isOut(cost, 0, TOP) || isOut(other, 0, TOP) || isOut(price, 0, TOP)) {
            return OUTSIDE;
        }
        if (town.goods.things >= THINGS) {
            return FULL;
        }
        duel.forget();
        return town.goods.addThing(cost, other, price);
    }

    public int step(int thing, int price) {
        if (noThing(thing)) {
            return UNKNOWN;
        }
        if (isOut(price, 0, TOP) || price <= town.goods.lastPrice(thing)) {
            return OUTSIDE;
        }
        if (town.goods.steps[thing] >= STEPS) {
            return FULL;
        }
        duel.forget();
        return town.goods.addStep(thing, price);
    }

    public int set(int shop, int thing, int what, int v) {
        if (noShop(shop) || noThing(thing)) {
            return UNKNOWN;
        }
        int place = shop * THINGS + thing;
        switch (what) {
            case 0:
                return isOut(v, 0, TOP) ? OUTSIDE : exchange(town.goods.cost, place, v);
            case 1:
                return isOut(v, 0, TOP_HEAD) ? OUTSIDE : exchange(town.goods.head, place, v);
            case 2:
                return isOut(v, 0, town.goods.steps[thing] - 1) ? UNKNOWN : exchange(town.goods.at, place, v);
            default:
                return OUTSIDE;
        }
    }

    public int show(int shop, int things) {
        if (noShop(shop)) {
            return UNKNOWN;
        }
        if (isOut(things, 0, TOP_BITS)) {
            return OUTSIDE;
        }
        return exchange(town.goods.window, shop, things);
    }

    public int sort(int many, int far, int other, int way) {
        if (isOut(many, 1, TOP) || isOut(far, 0, TOP) || isOut(other, 0, TOP) || isOut(way, 0, WAY_BELOW)) {
            return OUTSIDE;
        }
        if (town.people.sorts >= SORTS) {
            return FULL;
        }
        duel.forget();
        return town.people.addSort(many, far, other, way);
    }

    public int change(int sort, int what, int v) {
        if (noSort(sort)) {
            return UNKNOWN;
        }
        switch (what) {
            case 0:
                return isOut(v, 1, TOP) ? OUTSIDE : exchange(town.people.many, sort, v);
            case 1:
            case 2:
                return isOut(v, 0, TOP) ? OUTSIDE : exchange(town.people.far, sort * SHOPS + what - 1, v);
            case 3:
                return isOut(v, 0, WAY_BELOW) ? OUTSIDE : exchange(town.people.way, sort, v);
            case 4:
                return isOut(v, 0, TOP_SHELF) ? OUTSIDE : exchange(town.people.shelf, sort, v);
            default:
                return OUTSIDE;
        }
    }

    public int say(int sign) {
        if (isOut(sign, 33, 126)) {
            return OUTSIDE;
        }
        return pad.count >= SIGNS ? FULL : pad.put(sign);
    }

    public int wipe() {
        return pad.clear();
    }

    public int fault() {
        return pad.read();
    }

    public int list(int sort) {
        if (noSort(sort)) {
            return UNKNOWN;
        }
        if (pad.read() != NONE) {
            return NO;
        }
        duel.forget();
        pad.writeTo(town.people, sort);
        pad.clear();
        return pad.items;
    }

    public int item(int sort, int thing, int what) {
        if (noSort(sort) || noLetter(thing)) {
            return UNKNOWN;
        }
        if (isOut(what, 0, 2)) {
            return OUTSIDE;
        }
        int place = sort * THINGS + thing;
        if (town.people.want[place] == 0) {
            return NONE;
        }
        if (what == 0) {
            return town.people.want[place];
        }
        return what == 1 ? town.people.worth[place] : town.people.guess[place];
    }

    public int law(int v) {
        if (isOut(v, 0, 1)) {
            return OUTSIDE;
        }
        int was = town.law;
        town.law = v;
        return was;
    }

    // ---- 2 walks

    public long thinks(int sort, int what) {
        if (noSort(sort)) {
            return LOST + UNKNOWN;
        }
        if (isOut(what, 0, 2)) {
            return LOST + OUTSIDE;
        }
        lookAsItIs();
        return what == 2 ? walks.thoughtOfBoth(sort) : walks.thoughtOf(sort, what);
    }

    public int goes(int sort) {
        if (noSort(sort)) {
            return UNKNOWN;
        }
        lookAsItIs();
        return walks.placeOf(sort);
    }

    public int buys(int sort, int shop, int thing) {
        if (noSort(sort) || noShop(shop) || noThing(thing)) {
            return UNKNOWN;
        }
        lookAsItIs();
        walks.send(sort);
        return walks.basket[shop * THINGS + thing];
    }

    public long saves(int sort) {
        if (noSort(sort)) {
            return LOST + UNKNOWN;
        }
        lookAsItIs();
        return walks.savedBy(sort);
    }

    public long left(int shop) {
        if (noShop(shop)) {
            return LOST + UNKNOWN;
        }
        lookAsItIs();
        return walks.leftOf(shop);
    }

    public int row(int shop) {
        return noShop(shop) ? UNKNOWN : town.goods.rowOf(shop);
    }

    // ---- 3 prices

    public int best(int shop) {
        if (noShop(shop)) {
            return UNKNOWN;
        }
        if (forbidsAll(shop, town.law)) {
            return NO;
        }
        lookAsItIs();
        return prices.bestRow(shop, town.law);
    }

    public long most(int shop, int what) {
        if (noShop(shop)) {
            return LOST + UNKNOWN;
        }
        if (isOut(what, 0, 2)) {
            return LOST + OUTSIDE;
        }
        if (forbidsAll(shop, town.law)) {
            return LOST + NO;
        }
        lookAsItIs();
        if (what == 2) {
            return prices.boundOf(shop, town.law);
        }
        trial.putRow(shop, what == 0 ? prices.bestRow(shop, town.law) : prices.climbedRow(shop, town.law));
        return walks.leftOf(shop);
    }

    public int climb(int shop) {
        if (noShop(shop)) {
            return UNKNOWN;
        }
        lookAsItIs();
        return prices.climbedRow(shop, town.law);
    }

    public int lures(int shop) {
        if (noShop(shop)) {
            return UNKNOWN;
        }
        if (forbidsAll(shop, town.law)) {
            return NO;
        }
        lookAsItIs();
        trial.putRow(shop, prices.bestRow(shop, town.law));
        return trial.belowCost(shop);
    }

    public long brings(int shop, int thing) {
        if (noShop(shop) || noThing(thing)) {
            return LOST + UNKNOWN;
        }
        lookAsItIs();
        long now = walks.leftOf(shop);
        trial.at[shop * THINGS + thing] = trial.steps[thing] - 1;
        return now - walks.leftOf(shop);
    }

    public int only(int shop) {
        if (noShop(shop)) {
            return UNKNOWN;
        }
        lookAsItIs();
        int bits = 0;
        for (int sort = 0; sort < town.people.sorts; sort++) {
            if (walks.buysBelowAlone(sort, shop)) {
                bits |= 1 << sort;
            }
        }
        return bits;
    }

    public int rest(int i) {
        if (forbidsAll(0, town.law) || forbidsAll(1, town.law)) {
            return NO;
        }
        lookAsItIs();
        duel.prepare(town.law);
        return i == -1 ? duel.countRests() : duel.findRest(i);
    }

    public int ring(int shop, int what) {
        if (noShop(shop)) {
            return UNKNOWN;
        }
        if (isOut(what, 0, 3)) {
            return OUTSIDE;
        }
        if (forbidsAll(0, town.law) || forbidsAll(1, town.law)) {
            return NO;
        }
        lookAsItIs();
        duel.prepare(town.law);
        duel.fight(shop, town.goods.rowOf(0), town.goods.rowOf(1));
        switch (what) {
            case 0:
                return duel.changes;
            case 1:
                return duel.round;
            default:
                return duel.rows[what - 2];
        }
    }

    // ---- 4 heads, windows, laws, weeks

    public int heads(int shop, int thing) {
        if (noShop(shop) || noThing(thing)) {
            return UNKNOWN;
        }
        lookAsItIs();
        return prices.headFor(shop, thing);
    }

    public int shown(int shop, int k) {
        if (noShop(shop)) {
            return UNKNOWN;
        }
        if (isOut(k, 0, THINGS)) {
            return OUTSIDE;
        }
        lookAsItIs();
        return prices.windowFor(shop, k);
    }

    public int hurt() {
        if (forbidsAll(0, 1)) {
            return NO;
        }
        lookAsItIs();
        int lawful = prices.bestRow(0, 1);
        int free = prices.bestRow(0, 0);
        int bits = 0;
        for (int sort = 0; sort < town.people.sorts; sort++) {
            trial.putRow(0, lawful);
            int under = walks.savedBy(sort);
            trial.putRow(0, free);
            if (under < walks.savedBy(sort)) {
                bits |= 1 << sort;
            }
        }
        return bits;
    }

    public long home(int sort, int shop, int thing, int weeks, int n, int what) {
        if (noSort(sort) || noShop(shop) || noThing(thing) || town.people.want[sort * THINGS + thing] == 0) {
            return LOST + UNKNOWN;
        }
        // bits of twelve weeks, however many are gone through: those behind the n-th say nothing
        if (isOut(weeks, 0, TOP_WEEK_BITS) || isOut(n, 1, TOP_WEEKS) || isOut(what, 0, 2)) {
            return LOST + OUTSIDE;
        }
        pantry.live(sort, shop, thing, weeks, n);
        if (what == 0) {
            return pantry.count;
        }
        return what == 1 ? pantry.earned : pantry.stock;
    }

    // ---- 5 slips, edges

    public int slip(int things) {
        if (isOut(things, 0, TOP_BITS)) {
            return OUTSIDE;
        }
        return town.till.slips >= SLIPS ? FULL : town.till.put(things);
    }

    public int burn() {
        return town.till.clear();
    }

    public int with(int thing, int other) {
        if (noLetter(thing) || noLetter(other)) {
            return UNKNOWN;
        }
        return town.till.countWith(1 << thing | 1 << other);
    }

    public long chance(int thing, int other, int part) {
        if (noLetter(thing) || noLetter(other) || thing == other) {
            return LOST + UNKNOWN;
        }
        if (isOut(part, 0, 1)) {
            return LOST + OUTSIDE;
        }
        if (town.till.slips == 0) {
            return LOST + STATE;
        }
        return town.till.odds(1 << thing, 1 << other, part);
    }

    public int edge(int shop, int thing) {
        if (noShop(shop) || noThing(thing)) {
            return UNKNOWN;
        }
        if (forbidsAll(shop, town.law)) {
            return NO;
        }
        lookAsItIs();
        return prices.edgeOf(shop, thing, town.law);
    }

    public int image(int n) {
        if (isOut(n, 0, IMAGES - 1)) {
            return OUTSIDE;
        }
        images[n].copy(town);
        kept[n] = true;
        return 1;
    }

    public int restore(int n) {
        if (isOut(n, 0, IMAGES - 1)) {
            return OUTSIDE;
        }
        if (!kept[n]) {
            return STATE;
        }
        duel.forget();
        town.copy(images[n]);
        return 1;
    }

    public int told(int what) {
        switch (what) {
            case 0:
                return town.goods.things;
            case 1:
                return town.people.sorts;
            case 2:
                return town.till.slips;
            case 3:
                return pad.count;
            case 4:
                return town.law;
            case 5:
                return town.goods.rowCount();
            default:
                return isOut(what, 10, 21) ? OUTSIDE : town.goods.priceOrNone(what - 10);
        }
    }

    // ---- helpers

    private static boolean isOut(int v, int low, int high) {
        return v < low || v > high;
    }

    private static boolean noShop(int shop) {
        return isOut(shop, 0, SHOPS - 1);
    }

    /** A THING by its letter may be named before it is there. */
    private static boolean noLetter(int thing) {
        return isOut(thing, 0, THINGS - 1);
    }

    private boolean noThing(int thing) {
        return isOut(thing, 0, town.goods.things - 1);
    }

    private boolean noSort(int sort) {
        return isOut(sort, 0, town.people.sorts - 1);
    }

    private boolean forbidsAll(int shop, int law) {
        return law == 1 && !town.goods.hasLawfulRow(shop);
    }

    /** Every setting of the town is written here or behind duel.forget(), else the duel's tables would be old. */
    private int exchange(int[] numbers, int place, int v) {
        if (isOut(place, 0, numbers.length - 1)) {
            return UNKNOWN;
        }
        duel.forget();
        int was = numbers[place];
        numbers[place] = v;
        return was;
    }

    private void lookAsItIs() {
        trial.copy(town.goods);
        walks.learn();
    }

    /** All that an IMAGE keeps. */
    private static final class Town {
        final Goods goods = new Goods();
        final People people = new People();
        final Till till = new Till();
        int law;

        void copy(Town from) {
            goods.copy(from.goods);
            people.copy(from.people);
            till.copy(from.till);
            law = from.law;
        }
    }

    /** The THINGS, and how each SHOP has them. */
    private static final class Goods {
        int things;
        final int[] steps = new int[THINGS];
        /** By thing * STEPS + step. */
        final int[] price = new int[THINGS * STEPS];
        /** These three by shop * THINGS + thing. */
        final int[] cost = new int[SHOPS * THINGS];
        final int[] head = new int[SHOPS * THINGS];
        final int[] at = new int[SHOPS * THINGS];
        final int[] window = new int[SHOPS];

        void copy(Goods from) {
            things = from.things;
            System.arraycopy(from.steps, 0, steps, 0, THINGS);
            System.arraycopy(from.price, 0, price, 0, THINGS * STEPS);
            System.arraycopy(from.cost, 0, cost, 0, SHOPS * THINGS);
            System.arraycopy(from.head, 0, head, 0, SHOPS * THINGS);
            System.arraycopy(from.at, 0, at, 0, SHOPS * THINGS);
            System.arraycopy(from.window, 0, window, 0, SHOPS);
        }

        int addThing(int costHere, int costThere, int first) {
            int thing = things;
            steps[thing] = 1;
            price[thing * STEPS] = first;
            for (int shop = 0; shop < SHOPS; shop++) {
                cost[shop * THINGS + thing] = shop == 0 ? costHere : costThere;
                head[shop * THINGS + thing] = TOP_HEAD;
                at[shop * THINGS + thing] = 0;
            }
            things++;
            return thing;
        }

        int addStep(int thing, int next) {
            int number = steps[thing];
            price[thing * STEPS + number] = next;
            steps[thing]++;
            return number;
        }

        int lastPrice(int thing) {
            return price[thing * STEPS + steps[thing] - 1];
        }

        int priceNow(int shop, int thing) {
            return price[thing * STEPS + at[shop * THINGS + thing]];
        }

        int priceOrNone(int place) {
            int thing = place / STEPS;
            return thing < things && place % STEPS < steps[thing] ? price[place] : NONE;
        }

        int rowCount() {
            int product = 1;
            for (int thing = 0; thing < things; thing++) {
                product *= steps[thing];
            }
            return product;
        }

        int rowOf(int shop) {
            int number = 0;
            for (int thing = 0; thing < things; thing++) {
                number = number * steps[thing] + at[shop * THINGS + thing];
            }
            return number;
        }

        void putRow(int shop, int number) {
            int more = Math.max(0, number);
            for (int thing = things - 1; thing >= 0; thing--) {
                int base = Math.max(1, steps[thing]);
                at[shop * THINGS + thing] = more % base;
                more /= base;
            }
        }

        boolean isBelow(int shop, int thing) {
            int place = shop * THINGS + thing;
            return price[thing * STEPS + at[place]] < cost[place];
        }

        /** The THINGS that stand below COST, as bits. */
        int belowCost(int shop) {
            int bits = 0;
            for (int thing = 0; thing < things; thing++) {
                if (isBelow(shop, thing)) {
                    bits |= 1 << thing;
                }
            }
            return bits;
        }

        boolean isLawful(int shop, int law) {
            return law == 0 || belowCost(shop) == 0;
        }

        /** STEPS rise, so that a ROW is allowed just when that of all last STEPS is. */
        boolean hasLawfulRow(int shop) {
            for (int thing = 0; thing < things; thing++) {
                if (lastPrice(thing) < cost[shop * THINGS + thing]) {
                    return false;
                }
            }
            return true;
        }
    }

    /** The SORTS and their LISTS. */
    private static final class People {
        int sorts;
        final int[] many = new int[SORTS];
        /** By sort * SHOPS + shop. */
        final int[] far = new int[SORTS * SHOPS];
        final int[] way = new int[SORTS];
        final int[] shelf = new int[SORTS];
        /** These three by sort * THINGS + thing; want is 0 where the THING is not on the LIST. */
        final int[] want = new int[SORTS * THINGS];
        final int[] worth = new int[SORTS * THINGS];
        final int[] guess = new int[SORTS * THINGS];

        void copy(People from) {
            sorts = from.sorts;
            System.arraycopy(from.many, 0, many, 0, SORTS);
            System.arraycopy(from.far, 0, far, 0, SORTS * SHOPS);
            System.arraycopy(from.way, 0, way, 0, SORTS);
            System.arraycopy(from.shelf, 0, shelf, 0, SORTS);
            System.arraycopy(from.want, 0, want, 0, SORTS * THINGS);
            System.arraycopy(from.worth, 0, worth, 0, SORTS * THINGS);
            System.arraycopy(from.guess, 0, guess, 0, SORTS * THINGS);
        }

        int addSort(int number, int farHere, int farThere, int how) {
            int sort = sorts;
            many[sort] = number;
            far[sort * SHOPS] = farHere;
            far[sort * SHOPS + 1] = farThere;
            way[sort] = how;
            shelf[sort] = 0;
            for (int thing = 0; thing < THINGS; thing++) {
                want[sort * THINGS + thing] = 0;
            }
            sorts++;
            return sort;
        }
    }

    /** The SLIPS of the till. */
    private static final class Till {
        int slips;
        final int[] things = new int[SLIPS];

        void copy(Till from) {
            slips = from.slips;
            System.arraycopy(from.things, 0, things, 0, SLIPS);
        }

        int put(int bits) {
            things[slips] = bits;
            slips++;
            return slips;
        }

        int clear() {
            int were = slips;
            slips = 0;
            return were;
        }

        int countWith(int bits) {
            int number = 0;
            for (int i = 0; i < slips; i++) {
                if ((things[i] & bits) == bits) {
                    number++;
                }
            }
            return number;
        }

        long odds(int one, int other, int part) {
            int drawn = countWith(one);
            int marked = countWith(other);
            long fits = 0;
            for (int hit = countWith(one | other); hit <= drawn; hit++) {
                fits += choose(marked, hit) * choose(slips - marked, drawn - hit);
            }
            long all = choose(slips, drawn);
            long common = Math.max(1, commonDivisor(all, fits));
            return (part == 0 ? fits : all) / common;
        }

        private static long choose(int from, int number) {
            if (number < 0 || number > from) {
                return 0;
            }
            long ways = 1;
            for (int i = 0; i < number; i++) {
                ways = ways * (from - i) / (i + 1);
            }
            return ways;
        }

        private static long commonDivisor(long a, long b) {
            long x = a;
            long y = b;
            // Euclid's steps on numbers below 2 to the 63 are never as many as 100
            for (int i = 0; i < 100 && y != 0; i++) {
                long rest = x % y;
                x = y;
                y = rest;
            }
            return x;
        }
    }

    /** The signs that were said, and the reading of them as a LIST. */
    private static final class Pad {
        private static final int LETTER = 0, MANY = 1, LESS = 2, WORTH = 3, WORTH_MORE = 4, WORTH_END = 5;
        private static final int GUESS = 6, GUESS_MORE = 7, GUESS_END = 8, WRONG = 9;

        int count;
        /** ITEMS of the last reading. */
        int items;
        private int thing;
        private final int[] signs = new int[SIGNS];
        private final int[] want = new int[THINGS];
        private final int[] worth = new int[THINGS];
        private final int[] guess = new int[THINGS];

        int put(int sign) {
            signs[count] = sign;
            count++;
            return count;
        }

        int clear() {
            int were = count;
            count = 0;
            return were;
        }

        /** Reads the signs; answers THE FAULT, or NONE. */
        int read() {
            items = 0;
            thing = 0;
            for (int t = 0; t < THINGS; t++) {
                want[t] = 0;
                worth[t] = 0;
                guess[t] = NONE;
            }
            int awaited = LETTER;
            for (int place = 0; place < count; place++) {
                awaited = take(awaited, signs[place]);
                if (awaited == WRONG) {
                    return place;
                }
            }
            return mayEnd(awaited) ? NONE : count;
        }

        void writeTo(People people, int sort) {
            System.arraycopy(want, 0, people.want, sort * THINGS, THINGS);
            System.arraycopy(worth, 0, people.worth, sort * THINGS, THINGS);
            System.arraycopy(guess, 0, people.guess, sort * THINGS, THINGS);
        }

        private static boolean mayEnd(int awaited) {
            return awaited == WORTH_MORE || awaited == WORTH_END || awaited == GUESS_MORE || awaited == GUESS_END;
        }

        private static boolean isDigit(int sign) {
            return sign >= '0' && sign <= '9';
        }

        /** What is awaited behind this sign. */
        private int take(int awaited, int sign) {
            switch (awaited) {
                case LETTER:
                    return takeLetter(sign);
                case MANY:
                    return takeMany(sign);
                case LESS:
                    return sign == '<' ? WORTH : WRONG;
                case WORTH:
                    return isDigit(sign) ? addDigit(worth, 0, sign, WORTH_MORE) : WRONG;
                case WORTH_MORE:
                    return isDigit(sign) ? addDigit(worth, worth[thing], sign, WORTH_END) : takeMark(sign, true);
                case WORTH_END:
                    return takeMark(sign, true);
                case GUESS:
                    return isDigit(sign) ? addDigit(guess, 0, sign, GUESS_MORE) : WRONG;
                case GUESS_MORE:
                    return isDigit(sign) ? addDigit(guess, guess[thing], sign, GUESS_END) : takeMark(sign, false);
                default:
                    return takeMark(sign, false);
            }
        }

        private int takeLetter(int sign) {
            int letter = sign - 'a';
            if (letter < 0 || letter >= THINGS || want[letter] != 0) {
                return WRONG;
            }
            thing = letter;
            return MANY;
        }

        private int takeMany(int sign) {
            if (sign < '1' || sign > '3') {
                return WRONG;
            }
            want[thing] = sign - '0';
            items++;
            return LESS;
        }

        private int addDigit(int[] numbers, int before, int sign, int next) {
            numbers[thing] = before * 10 + sign - '0';
            return next;
        }

        private int takeMark(int sign, boolean mayGuess) {
            if (mayGuess && sign == '~') {
                return GUESS;
            }
            return sign == ';' && items < THINGS ? LETTER : WRONG;
        }
    }

    /** Where SORTS GO and what they BUY, the goods being as they are set. */
    private static final class Walks {
        private final Goods goods;
        private final People people;
        /** For each sort, shop, thing and step: GAIN as it is thought; how many are WANTED at the real price. */
        private final int[] thought = new int[SORTS * SHOPS * THINGS * STEPS];
        private final int[] wanted = new int[SORTS * SHOPS * THINGS * STEPS];
        /** For each THING, if a SORT GOES to both SHOPS: where it buys that. */
        private final int[] side = new int[THINGS];
        /** What one of the SORT that was sent last BUYS, by shop * THINGS + thing. */
        final int[] basket = new int[SHOPS * THINGS];
        /** LEFT of each SHOP by the last tally. */
        final int[] sums = new int[SHOPS];

        Walks(Goods goods, People people) {
            this.goods = goods;
            this.people = people;
        }

        /** To be called again when anything but a STEP at which a THING stands has changed. */
        void learn() {
            for (int shop = 0; shop < SHOPS; shop++) {
                for (int thing = 0; thing < goods.things; thing++) {
                    learnThing(shop, thing);
                }
            }
        }

        void learnThing(int shop, int thing) {
            for (int sort = 0; sort < people.sorts; sort++) {
                int first = ((sort * SHOPS + shop) * THINGS + thing) * STEPS;
                int way = people.way[sort];
                for (int step = 0; step < goods.steps[thing]; step++) {
                    int price = goods.price[thing * STEPS + step];
                    thought[first + step] = gainAt(sort, shop, thing, takenFor(sort, shop, thing, price), way);
                    wanted[first + step] = wantedAt(sort, shop, thing, price, way);
                }
            }
        }

        /** What the SORT takes a real price for. */
        private int takenFor(int sort, int shop, int thing, int price) {
            int guess = people.guess[sort * THINGS + thing];
            boolean seen = guess == NONE || (goods.window[shop] >> thing & 1) == 1;
            return seen ? price : guess;
        }

        private int wantedAt(int sort, int shop, int thing, int price, int way) {
            int place = sort * THINGS + thing;
            if (people.want[place] == 0 || people.worth[place] < price) {
                return 0;
            }
            if (way == WAY_BELOW && price >= goods.cost[shop * THINGS + thing]) {
                return 0;
            }
            int head = goods.head[shop * THINGS + thing];
            return people.want[place] < head ? people.want[place] : head;
        }

        private int gainAt(int sort, int shop, int thing, int price, int way) {
            int number = wantedAt(sort, shop, thing, price, way);
            return number == 0 ? 0 : number * (people.worth[sort * THINGS + thing] - price);
        }

        int thoughtOf(int sort, int shop) {
            int sum = -people.far[sort * SHOPS + shop];
            for (int thing = 0; thing < goods.things; thing++) {
                sum += thought[cell(sort, shop, thing)];
            }
            return sum;
        }

        /** BOTH as a SORT of WAY 1 would think: below COST or not does not matter then. */
        int thoughtOfBoth(int sort) {
            int sum = -people.far[sort * SHOPS] - people.far[sort * SHOPS + 1];
            for (int thing = 0; thing < goods.things; thing++) {
                sum += Math.max(freeGain(sort, 0, thing), freeGain(sort, 1, thing));
            }
            return sum;
        }

        private int freeGain(int sort, int shop, int thing) {
            int price = takenFor(sort, shop, thing, goods.priceNow(shop, thing));
            return gainAt(sort, shop, thing, price, WAY_BOTH);
        }

        private int cell(int sort, int shop, int thing) {
            int place = shop * THINGS + thing;
            return (sort * SHOPS * THINGS + place) * STEPS + goods.at[place];
        }

        /** Where a SORT GOES; sets, too, in which SHOP each ITEM is bought if it GOES to both. */
        int placeOf(int sort) {
            int here = -people.far[sort * SHOPS];
            int there = -people.far[sort * SHOPS + 1];
            int both = here + there;
            // cell() written out: nothing is asked as often as this
            int first = sort * SHOPS * THINGS;
            for (int thing = 0; thing < goods.things; thing++) {
                int gainHere = thought[(first + thing) * STEPS + goods.at[thing]];
                int gainThere = thought[(first + THINGS + thing) * STEPS + goods.at[THINGS + thing]];
                side[thing] = gainThere > gainHere ? 1 : 0;
                here += gainHere;
                there += gainThere;
                both += side[thing] == 1 ? gainThere : gainHere;
            }
            int place = here > 0 ? TO_FIRST : NOWHERE;
            int most = here > 0 ? here : 0;
            if (there > most) {
                place = TO_SECOND;
                most = there;
            }
            return people.way[sort] == WAY_BOTH && both > most ? TO_BOTH : place;
        }

        private static boolean visits(int place, int shop) {
            return (place >> shop & 1) == 1;
        }

        /** Lays into the basket what one of a SORT BUYS; answers where it GOES. */
        int send(int sort) {
            int place = placeOf(sort);
            for (int shop = 0; shop < SHOPS; shop++) {
                boolean there = visits(place, shop);
                for (int thing = 0; thing < goods.things; thing++) {
                    boolean takes = there && (place != TO_BOTH || side[thing] == shop);
                    basket[shop * THINGS + thing] = takes ? wanted[cell(sort, shop, thing)] : 0;
                }
            }
            return place;
        }

        /** What all of the SORT that was sent last bring a SHOP. */
        int brought(int sort, int shop) {
            int sum = 0;
            for (int thing = 0; thing < goods.things; thing++) {
                int place = shop * THINGS + thing;
                sum += basket[place] * (goods.price[thing * STEPS + goods.at[place]] - goods.cost[place]);
            }
            return sum * people.many[sort];
        }

        /** LEFT of both SHOPS, into sums. */
        void tally() {
            Arrays.fill(sums, 0);
            for (int sort = 0; sort < people.sorts; sort++) {
                if (send(sort) != NOWHERE) {
                    sums[0] += brought(sort, 0);
                    sums[1] += brought(sort, 1);
                }
            }
        }

        int leftOf(int shop) {
            int sum = 0;
            for (int sort = 0; sort < people.sorts; sort++) {
                if (visits(send(sort), shop)) {
                    sum += brought(sort, shop);
                }
            }
            return sum;
        }

        int savedBy(int sort) {
            int place = send(sort);
            int sum = 0;
            for (int shop = 0; shop < SHOPS; shop++) {
                if (visits(place, shop)) {
                    sum += gained(sort, shop) - people.far[sort * SHOPS + shop];
                }
            }
            return sum;
        }

        private int gained(int sort, int shop) {
            int sum = 0;
            for (int thing = 0; thing < goods.things; thing++) {
                int over = people.worth[sort * THINGS + thing] - goods.priceNow(shop, thing);
                sum += basket[shop * THINGS + thing] * over;
            }
            return sum;
        }

        boolean buysBelowAlone(int sort, int shop) {
            send(sort);
            boolean something = false;
            for (int thing = 0; thing < goods.things; thing++) {
                if (basket[shop * THINGS + thing] > 0) {
                    if (!goods.isBelow(shop, thing)) {
                        return false;
                    }
                    something = true;
                }
            }
            return something;
        }
    }

    /** What one SHOP would do best, the other one staying as it is. */
    private static final class Prices {
        private final Goods goods;
        private final People people;
        private final Walks walks;
        private final int[] alone = new int[SORTS];

        Prices(Goods goods, People people, Walks walks) {
            this.goods = goods;
            this.people = people;
            this.walks = walks;
        }

        /** BEST, or NONE; the goods stand afterwards as before. */
        int bestRow(int shop, int law) {
            int was = goods.rowOf(shop);
            int rows = goods.rowCount();
            int found = NONE;
            int most = 0;
            for (int number = 0; number < rows; number++) {
                goods.putRow(shop, number);
                if (goods.isLawful(shop, law)) {
                    int sum = walks.leftOf(shop);
                    if (found == NONE || sum > most) {
                        found = number;
                        most = sum;
                    }
                }
            }
            goods.putRow(shop, was);
            return found;
        }

        /** The ROW that ONE BY ONE comes to; the goods stand there afterwards. */
        int climbedRow(int shop, int law) {
            boolean changed = true;
            // each round that changes something finds a ROW with more LEFT: never more rounds than ROWS and one
            for (int round = 0; round <= MOST_ROWS && changed; round++) {
                changed = false;
                for (int thing = 0; thing < goods.things; thing++) {
                    if (moveThing(shop, thing, law)) {
                        changed = true;
                    }
                }
            }
            return goods.rowOf(shop);
        }

        private boolean moveThing(int shop, int thing, int law) {
            int place = shop * THINGS + thing;
            int was = goods.at[place];
            int found = was;
            int most = walks.leftOf(shop);
            for (int step = 0; step < goods.steps[thing]; step++) {
                goods.at[place] = step;
                if (law == 0 || !goods.isBelow(shop, thing)) {
                    int sum = walks.leftOf(shop);
                    if (sum > most) {
                        found = step;
                        most = sum;
                    }
                }
            }
            goods.at[place] = found;
            return found != was;
        }

        int boundOf(int shop, int law) {
            int rows = goods.rowCount();
            boolean any = false;
            for (int number = 0; number < rows; number++) {
                goods.putRow(shop, number);
                if (goods.isLawful(shop, law)) {
                    raiseAlone(shop, !any);
                    any = true;
                }
            }
            int sum = 0;
            for (int sort = 0; sort < people.sorts; sort++) {
                sum += any ? alone[sort] : 0;
            }
            return sum;
        }

        private void raiseAlone(int shop, boolean first) {
            for (int sort = 0; sort < people.sorts; sort++) {
                walks.send(sort);
                int sum = walks.brought(sort, shop);
                alone[sort] = first ? sum : Math.max(alone[sort], sum);
            }
        }

        int headFor(int shop, int thing) {
            int found = TOP_HEAD;
            int most = leftWithHead(shop, thing, TOP_HEAD);
            for (int head = TOP_HEAD - 1; head >= 0; head--) {
                int sum = leftWithHead(shop, thing, head);
                if (sum > most) {
                    found = head;
                    most = sum;
                }
            }
            return found;
        }

        private int leftWithHead(int shop, int thing, int head) {
            goods.head[shop * THINGS + thing] = head;
            walks.learnThing(shop, thing);
            return walks.leftOf(shop);
        }

        /** Sets are looked at by how many THINGS they have, so that the first with the most is the one. */
        int windowFor(int shop, int limit) {
            int found = 0;
            int most = leftWithWindow(shop, 0);
            for (int size = 1; size <= limit; size++) {
                for (int bits = 1; bits < 1 << goods.things; bits++) {
                    int sum = Integer.bitCount(bits) == size ? leftWithWindow(shop, bits) : most;
                    if (sum > most) {
                        found = bits;
                        most = sum;
                    }
                }
            }
            return found;
        }

        private int leftWithWindow(int shop, int bits) {
            goods.window[shop] = bits;
            walks.learn();
            return walks.leftOf(shop);
        }

        int edgeOf(int shop, int thing, int law) {
            int now = goods.cost[shop * THINGS + thing];
            int usual = bestRow(shop, law);
            for (int by = 1; by <= TOP; by++) {
                if (now - by >= 0 && turnsBest(shop, thing, law, now - by, usual)) {
                    return now - by;
                }
                if (now + by <= TOP && turnsBest(shop, thing, law, now + by, usual)) {
                    return now + by;
                }
            }
            return NONE;
        }

        private boolean turnsBest(int shop, int thing, int law, int cost, int usual) {
            goods.cost[shop * THINGS + thing] = cost;
            walks.learnThing(shop, thing);
            int found = bestRow(shop, law);
            return found != NONE && found != usual;
        }
    }

    /** Both SHOPS against one another: RESTS and RINGS, over tables of LEFT for all pairs of ROWS. */
    private static final class Duel {
        int changes;
        int round;
        final int[] rows = new int[SHOPS];
        private final Goods goods;
        private final Walks walks;
        private int rowCount;
        private boolean fresh;
        /** LEFT of SHOP 0 and of SHOP 1, by pair: ROW of SHOP 0 * MOST_ROWS + ROW of SHOP 1. */
        private final int[] leftHere = new int[MOST_ROWS * MOST_ROWS];
        private final int[] leftThere = new int[MOST_ROWS * MOST_ROWS];
        /** These two by shop * MOST_ROWS + row: what LAW allows; BEST against that ROW of the other SHOP. */
        private final boolean[] lawful = new boolean[SHOPS * MOST_ROWS];
        private final int[] answer = new int[SHOPS * MOST_ROWS];
        /** The turn, from 1 on, at which a pair with one next came first. */
        private final int[] seen = new int[MOST_ROWS * MOST_ROWS * SHOPS];

        Duel(Goods goods, Walks walks) {
            this.goods = goods;
            this.walks = walks;
        }

        /** The tables do not hold any more. */
        void forget() {
            fresh = false;
        }

        /** Both SHOPS must have a ROW that LAW allows. */
        void prepare(int law) {
            rowCount = goods.rowCount();
            if (!fresh) {
                fillTables();
                fresh = true;
            }
            for (int shop = 0; shop < SHOPS; shop++) {
                for (int number = 0; number < rowCount; number++) {
                    goods.putRow(shop, number);
                    lawful[shop * MOST_ROWS + number] = goods.isLawful(shop, law);
                }
            }
            for (int shop = 0; shop < SHOPS; shop++) {
                for (int number = 0; number < rowCount; number++) {
                    answer[shop * MOST_ROWS + number] = bestAgainst(shop, number);
                }
            }
        }

        private void fillTables() {
            for (int here = 0; here < rowCount; here++) {
                goods.putRow(0, here);
                for (int there = 0; there < rowCount; there++) {
                    goods.putRow(1, there);
                    walks.tally();
                    leftHere[here * MOST_ROWS + there] = walks.sums[0];
                    leftThere[here * MOST_ROWS + there] = walks.sums[1];
                }
            }
        }

        private int leftBy(int shop, int own, int others) {
            return shop == 0 ? leftHere[own * MOST_ROWS + others] : leftThere[others * MOST_ROWS + own];
        }

        private int bestAgainst(int shop, int others) {
            int found = 0;
            boolean any = false;
            for (int own = 0; own < rowCount; own++) {
                if (lawful[shop * MOST_ROWS + own]) {
                    if (!any || leftBy(shop, own, others) > leftBy(shop, found, others)) {
                        found = own;
                    }
                    any = true;
                }
            }
            return found;
        }

        private boolean couldHaveMore(int shop, int own, int others) {
            int most = answer[shop * MOST_ROWS + others];
            return leftBy(shop, most, others) > leftBy(shop, own, others);
        }

        private boolean isRest(int here, int there) {
            return lawful[here] && lawful[MOST_ROWS + there]
                && !couldHaveMore(0, here, there) && !couldHaveMore(1, there, here);
        }

        int countRests() {
            int number = 0;
            for (int here = 0; here < rowCount; here++) {
                for (int there = 0; there < rowCount; there++) {
                    if (isRest(here, there)) {
                        number++;
                    }
                }
            }
            return number;
        }

        int findRest(int i) {
            int number = 0;
            for (int here = 0; here < rowCount; here++) {
                for (int there = 0; there < rowCount; there++) {
                    if (isRest(here, there)) {
                        if (number == i) {
                            return here * 100 + there;
                        }
                        number++;
                    }
                }
            }
            return NONE;
        }

        /** RING from a pair of ROWS on: sets changes, round and rows. */
        void fight(int first, int here, int there) {
            Arrays.fill(seen, 0);
            changes = 0;
            round = 0;
            rows[0] = here;
            rows[1] = there;
            int next = first;
            int stays = 0;
            // there are no more pairs with one next than places in seen
            for (int turn = 1; turn <= seen.length + 1 && stays < SHOPS; turn++) {
                int pair = (rows[0] * MOST_ROWS + rows[1]) * SHOPS + next;
                if (seen[pair] > 0) {
                    round = turn - seen[pair];
                    return;
                }
                seen[pair] = turn;
                stays = takesTurn(next) ? 0 : stays + 1;
                next = 1 - next;
            }
        }

        private boolean takesTurn(int shop) {
            int own = rows[shop];
            int others = rows[1 - shop];
            if (lawful[shop * MOST_ROWS + own] && !couldHaveMore(shop, own, others)) {
                return false;
            }
            rows[shop] = answer[shop * MOST_ROWS + others];
            changes++;
            return true;
        }
    }

    /** HOME: what one of a SORT puts by through weeks. */
    private static final class Weeks {
        int count;
        int earned;
        int stock;
        private final Goods goods;
        private final People people;

        Weeks(Goods goods, People people) {
            this.goods = goods;
            this.people = people;
        }

        void live(int sort, int shop, int thing, int weeks, int n) {
            count = 0;
            earned = 0;
            stock = 0;
            int first = goods.price[thing * STEPS];
            int last = goods.lastPrice(thing);
            int worth = people.worth[sort * THINGS + thing];
            int want = people.want[sort * THINGS + thing];
            int cost = goods.cost[shop * THINGS + thing];
            for (int week = 0; week < n; week++) {
                boolean cheap = (weeks >> week & 1) == 1 && first < last;
                int price = cheap ? first : last;
                int number = cheap ? needCheaply(want, people.shelf[sort], price <= worth) : needDearly(want);
                if (price <= worth) {
                    count += number;
                    earned += number * (price - cost);
                }
            }
        }

        /** Above WORTH at the first STEP is above it at the last, too: then nothing was ever put by. */
        private int needCheaply(int want, int shelf, boolean bought) {
            int number = want + shelf - stock;
            if (bought) {
                stock = shelf;
            }
            return number;
        }

        private int needDearly(int want) {
            int used = Math.min(stock, want);
            stock -= used;
            return want - used;
        }
    }
}
