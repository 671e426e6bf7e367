import java.math.BigInteger;
import java.util.ArrayList;
import java.util.HashMap;
import java.util.List;
import java.util.Map;

/**
 * The document once more, as slow and plain as can be: whole towns are copied for every "what if".
 * It shares no code with the class, so that FuzzTest can hold the two against each other.
 */
final class Oracle {
    static final long LOST = -1000000000000000000L;

    private static final class Ware {
        final int[] cost = new int[2];
        final int[] head = {3, 3};
        final int[] at = new int[2];
        final List<Integer> ladder = new ArrayList<>();

        Ware copy() {
            Ware w = new Ware();
            for (int s = 0; s < 2; s++) {
                w.cost[s] = cost[s];
                w.head[s] = head[s];
                w.at[s] = at[s];
            }
            w.ladder.addAll(ladder);
            return w;
        }

        int price(int shop) {
            return ladder.get(at[shop]);
        }
    }

    private record Entry(int many, int worth, Integer guess) { }

    private static final class Folk {
        int many;
        int way;
        int shelf;
        final int[] far = new int[2];
        Map<Integer, Entry> list = new HashMap<>();

        Folk copy() {
            Folk f = new Folk();
            f.many = many;
            f.way = way;
            f.shelf = shelf;
            f.far[0] = far[0];
            f.far[1] = far[1];
            f.list = new HashMap<>(list);
            return f;
        }
    }

    private static final class State {
        final List<Ware> wares = new ArrayList<>();
        final List<Folk> folks = new ArrayList<>();
        final List<Integer> slips = new ArrayList<>();
        final int[] window = new int[2];
        int law;

        State copy() {
            State s = new State();
            for (Ware w : wares) {
                s.wares.add(w.copy());
            }
            for (Folk f : folks) {
                s.folks.add(f.copy());
            }
            s.slips.addAll(slips);
            s.window[0] = window[0];
            s.window[1] = window[1];
            s.law = law;
            return s;
        }

        int rows() {
            int n = 1;
            for (Ware w : wares) {
                n *= w.ladder.size();
            }
            return n;
        }

        int row(int shop) {
            int behind = 1;
            int sum = 0;
            for (int t = wares.size() - 1; t >= 0; t--) {
                sum += wares.get(t).at[shop] * behind;
                behind *= wares.get(t).ladder.size();
            }
            return sum;
        }

        State atRow(int shop, int row) {
            State s = copy();
            int behind = s.rows();
            int rest = row;
            for (Ware w : s.wares) {
                behind /= w.ladder.size();
                w.at[shop] = rest / behind;
                rest %= behind;
            }
            return s;
        }

        boolean allowed(int shop, int byLaw) {
            if (byLaw == 0) {
                return true;
            }
            for (Ware w : wares) {
                if (w.price(shop) < w.cost[shop]) {
                    return false;
                }
            }
            return true;
        }

        int wanted(Folk f, int shop, int t, int price, int way) {
            Entry e = f.list.get(t);
            if (e == null || e.worth < price || way == 2 && !(price < wares.get(t).cost[shop])) {
                return 0;
            }
            return Math.min(e.many, wares.get(t).head[shop]);
        }

        int gain(Folk f, int shop, int t, int way) {
            Entry e = f.list.get(t);
            if (e == null) {
                return 0;
            }
            boolean real = e.guess == null || (window[shop] & 1 << t) != 0;
            int price = real ? wares.get(t).price(shop) : e.guess;
            return wanted(f, shop, t, price, way) * (e.worth - price);
        }

        int thinks(Folk f, int what) {
            int sum = 0;
            for (int t = 0; t < wares.size(); t++) {
                if (what < 2) {
                    sum += gain(f, what, t, f.way);
                } else {
                    sum += Math.max(gain(f, 0, t, 1), gain(f, 1, t, 1));
                }
            }
            return sum - (what == 1 ? 0 : f.far[0]) - (what == 0 ? 0 : f.far[1]);
        }

        int goes(Folk f) {
            int[] sums = {0, thinks(f, 0), thinks(f, 1), f.way == 1 ? thinks(f, 2) : Integer.MIN_VALUE};
            int place = 0;
            for (int i = 1; i < 4; i++) {
                if (sums[i] > sums[place]) {
                    place = i;
                }
            }
            return place;
        }

        int buys(Folk f, int shop, int t) {
            int place = goes(f);
            if (place == 0 || place == 1 && shop == 1 || place == 2 && shop == 0) {
                return 0;
            }
            if (place == 3) {
                boolean second = gain(f, 1, t, 1) > gain(f, 0, t, 1);
                if (second != (shop == 1)) {
                    return 0;
                }
            }
            return wanted(f, shop, t, wares.get(t).price(shop), f.way);
        }

        int left(Folk f, int shop) {
            int sum = 0;
            for (int t = 0; t < wares.size(); t++) {
                sum += f.many * buys(f, shop, t) * (wares.get(t).price(shop) - wares.get(t).cost[shop]);
            }
            return sum;
        }

        int left(int shop) {
            int sum = 0;
            for (Folk f : folks) {
                sum += left(f, shop);
            }
            return sum;
        }

        int saves(Folk f) {
            int place = goes(f);
            int sum = 0;
            for (int shop = 0; shop < 2; shop++) {
                for (int t = 0; t < wares.size(); t++) {
                    int n = buys(f, shop, t);
                    sum += n == 0 ? 0 : n * (f.list.get(t).worth - wares.get(t).price(shop));
                }
                if (place == shop + 1 || place == 3) {
                    sum -= f.far[shop];
                }
            }
            return sum;
        }

        int best(int shop, int byLaw) {
            int found = -1;
            for (int r = 0; r < rows(); r++) {
                State s = atRow(shop, r);
                if (s.allowed(shop, byLaw) && (found < 0 || s.left(shop) > atRow(shop, found).left(shop))) {
                    found = r;
                }
            }
            return found;
        }

        State climbed(int shop) {
            State now = copy();
            boolean again = true;
            while (again) {
                again = false;
                for (int t = 0; t < wares.size(); t++) {
                    State better = null;
                    for (int k = 0; k < wares.get(t).ladder.size(); k++) {
                        State s = now.copy();
                        s.wares.get(t).at[shop] = k;
                        Ware w = s.wares.get(t);
                        boolean may = law == 0 || w.price(shop) >= w.cost[shop];
                        if (may && (better == null || s.left(shop) > better.left(shop))) {
                            better = s;
                        }
                    }
                    if (better != null && better.left(shop) > now.left(shop)) {
                        now = better;
                        again = true;
                    }
                }
            }
            return now;
        }

        int bound(int shop) {
            int sum = 0;
            for (int i = 0; i < folks.size(); i++) {
                int most = Integer.MIN_VALUE;
                for (int r = 0; r < rows(); r++) {
                    State s = atRow(shop, r);
                    if (s.allowed(shop, law)) {
                        most = Math.max(most, s.left(s.folks.get(i), shop));
                    }
                }
                sum += most;
            }
            return sum;
        }
    }

    private State now = new State();
    private final State[] images = new State[2];
    private String pad = "";

    private static boolean in(int v, int low, int high) {
        return low <= v && v <= high;
    }

    private boolean isThing(int t) {
        return in(t, 0, now.wares.size() - 1);
    }

    private boolean isSort(int s) {
        return in(s, 0, now.folks.size() - 1);
    }

    int thing(int cost, int other, int price) {
        if (!in(cost, 0, 99) || !in(other, 0, 99) || !in(price, 0, 99)) {
            return -2;
        }
        if (now.wares.size() == 4) {
            return -4;
        }
        Ware w = new Ware();
        w.cost[0] = cost;
        w.cost[1] = other;
        w.ladder.add(price);
        now.wares.add(w);
        return now.wares.size() - 1;
    }

    int step(int t, int price) {
        if (!isThing(t)) {
            return -1;
        }
        List<Integer> ladder = now.wares.get(t).ladder;
        if (!in(price, 0, 99) || price <= ladder.get(ladder.size() - 1)) {
            return -2;
        }
        if (ladder.size() == 3) {
            return -4;
        }
        ladder.add(price);
        return ladder.size() - 1;
    }

    int set(int shop, int t, int what, int v) {
        if (!in(shop, 0, 1) || !isThing(t) || what == 2 && !in(v, 0, now.wares.get(t).ladder.size() - 1)) {
            return -1;
        }
        if (!in(what, 0, 2) || what == 0 && !in(v, 0, 99) || what == 1 && !in(v, 0, 3)) {
            return -2;
        }
        Ware w = now.wares.get(t);
        int[] numbers = what == 0 ? w.cost : what == 1 ? w.head : w.at;
        int was = numbers[shop];
        numbers[shop] = v;
        return was;
    }

    int show(int shop, int things) {
        if (!in(shop, 0, 1)) {
            return -1;
        }
        if (!in(things, 0, 15)) {
            return -2;
        }
        int was = now.window[shop];
        now.window[shop] = things;
        return was;
    }

    int sort(int many, int far, int other, int way) {
        if (!in(many, 1, 99) || !in(far, 0, 99) || !in(other, 0, 99) || !in(way, 0, 2)) {
            return -2;
        }
        if (now.folks.size() == 5) {
            return -4;
        }
        Folk f = new Folk();
        f.many = many;
        f.far[0] = far;
        f.far[1] = other;
        f.way = way;
        now.folks.add(f);
        return now.folks.size() - 1;
    }

    int change(int sort, int what, int v) {
        if (!isSort(sort)) {
            return -1;
        }
        int[] low = {1, 0, 0, 0, 0};
        int[] high = {99, 99, 99, 2, 6};
        if (!in(what, 0, 4) || !in(v, low[what], high[what])) {
            return -2;
        }
        Folk f = now.folks.get(sort);
        int[] was = {f.many, f.far[0], f.far[1], f.way, f.shelf};
        f.many = what == 0 ? v : f.many;
        f.far[0] = what == 1 ? v : f.far[0];
        f.far[1] = what == 2 ? v : f.far[1];
        f.way = what == 3 ? v : f.way;
        f.shelf = what == 4 ? v : f.shelf;
        return was[what];
    }

    int say(int sign) {
        if (!in(sign, 33, 126)) {
            return -2;
        }
        if (pad.length() == 40) {
            return -4;
        }
        pad += (char) sign;
        return pad.length();
    }

    int wipe() {
        int n = pad.length();
        pad = "";
        return n;
    }

    private static boolean isList(String text) {
        String seen = "";
        for (String item : text.split(";", -1)) {
            if (!item.matches("[a-d][1-3]<[0-9]{1,2}(~[0-9]{1,2})?") || seen.contains(item.substring(0, 1))) {
                return false;
            }
            seen += item.charAt(0);
        }
        return true;
    }

    /** Whether something can be put behind the text so that it is a LIST. */
    private static boolean mayBegin(String text) {
        String[] ends = {"", "0", "<0", "1<0", "a1<0", "b1<0", "c1<0", "d1<0"};
        for (String end : ends) {
            if (isList(text + end)) {
                return true;
            }
        }
        return false;
    }

    int fault() {
        for (int p = 0; p < pad.length(); p++) {
            if (!mayBegin(pad.substring(0, p + 1))) {
                return p;
            }
        }
        return isList(pad) ? -6 : pad.length();
    }

    int list(int sort) {
        if (!isSort(sort)) {
            return -1;
        }
        if (!isList(pad)) {
            return -5;
        }
        Map<Integer, Entry> list = new HashMap<>();
        for (String item : pad.split(";")) {
            String[] parts = item.substring(3).split("~");
            Integer guess = parts.length == 2 ? Integer.valueOf(parts[1]) : null;
            list.put(item.charAt(0) - 'a', new Entry(item.charAt(1) - '0', Integer.parseInt(parts[0]), guess));
        }
        now.folks.get(sort).list = list;
        pad = "";
        return list.size();
    }

    int item(int sort, int t, int what) {
        if (!isSort(sort) || !in(t, 0, 3)) {
            return -1;
        }
        if (!in(what, 0, 2)) {
            return -2;
        }
        Entry e = now.folks.get(sort).list.get(t);
        if (e == null) {
            return -6;
        }
        return what == 0 ? e.many : what == 1 ? e.worth : e.guess == null ? -6 : e.guess;
    }

    int law(int v) {
        if (!in(v, 0, 1)) {
            return -2;
        }
        int was = now.law;
        now.law = v;
        return was;
    }

    long thinks(int sort, int what) {
        if (!isSort(sort)) {
            return LOST - 1;
        }
        return in(what, 0, 2) ? now.thinks(now.folks.get(sort), what) : LOST - 2;
    }

    int goes(int sort) {
        return isSort(sort) ? now.goes(now.folks.get(sort)) : -1;
    }

    int buys(int sort, int shop, int t) {
        boolean known = isSort(sort) && in(shop, 0, 1) && isThing(t);
        return known ? now.buys(now.folks.get(sort), shop, t) : -1;
    }

    long saves(int sort) {
        return isSort(sort) ? now.saves(now.folks.get(sort)) : LOST - 1;
    }

    long left(int shop) {
        return in(shop, 0, 1) ? now.left(shop) : LOST - 1;
    }

    int row(int shop) {
        return in(shop, 0, 1) ? now.row(shop) : -1;
    }

    int best(int shop) {
        if (!in(shop, 0, 1)) {
            return -1;
        }
        int r = now.best(shop, now.law);
        return r < 0 ? -5 : r;
    }

    long most(int shop, int what) {
        if (!in(shop, 0, 1)) {
            return LOST - 1;
        }
        if (!in(what, 0, 2)) {
            return LOST - 2;
        }
        int r = now.best(shop, now.law);
        if (r < 0) {
            return LOST - 5;
        }
        return what == 0 ? now.atRow(shop, r).left(shop) : what == 1 ? now.climbed(shop).left(shop) : now.bound(shop);
    }

    int climb(int shop) {
        return in(shop, 0, 1) ? now.climbed(shop).row(shop) : -1;
    }

    int lures(int shop) {
        int r = best(shop);
        if (r < 0) {
            return r;
        }
        State s = now.atRow(shop, r);
        int bits = 0;
        for (int t = 0; t < s.wares.size(); t++) {
            bits += s.wares.get(t).price(shop) < s.wares.get(t).cost[shop] ? 1 << t : 0;
        }
        return bits;
    }

    long brings(int shop, int t) {
        if (!in(shop, 0, 1) || !isThing(t)) {
            return LOST - 1;
        }
        State s = now.copy();
        s.wares.get(t).at[shop] = s.wares.get(t).ladder.size() - 1;
        return now.left(shop) - s.left(shop);
    }

    int only(int shop) {
        if (!in(shop, 0, 1)) {
            return -1;
        }
        int bits = 0;
        for (int i = 0; i < now.folks.size(); i++) {
            int below = 0;
            int other = 0;
            for (int t = 0; t < now.wares.size(); t++) {
                Ware w = now.wares.get(t);
                int n = now.buys(now.folks.get(i), shop, t);
                below += w.price(shop) < w.cost[shop] ? n : 0;
                other += w.price(shop) < w.cost[shop] ? 0 : n;
            }
            bits += below > 0 && other == 0 ? 1 << i : 0;
        }
        return bits;
    }

    /** LEFT for all pairs of ROWS: [shop][row of shop 0][row of shop 1]. */
    private int[][][] pairs() {
        int rows = now.rows();
        int[][][] all = new int[2][rows][rows];
        for (int a = 0; a < rows; a++) {
            State half = now.atRow(0, a);
            for (int b = 0; b < rows; b++) {
                State s = half.atRow(1, b);
                all[0][a][b] = s.left(0);
                all[1][a][b] = s.left(1);
            }
        }
        return all;
    }

    int rest(int i) {
        if (now.best(0, now.law) < 0 || now.best(1, now.law) < 0) {
            return -5;
        }
        int rows = now.rows();
        int[][][] all = pairs();
        List<Integer> rests = new ArrayList<>();
        for (int a = 0; a < rows; a++) {
            for (int b = 0; b < rows; b++) {
                boolean still = now.atRow(0, a).allowed(0, now.law) && now.atRow(1, b).allowed(1, now.law);
                for (int c = 0; still && c < rows; c++) {
                    if (now.atRow(0, c).allowed(0, now.law) && all[0][c][b] > all[0][a][b]) {
                        still = false;
                    }
                    if (now.atRow(1, c).allowed(1, now.law) && all[1][a][c] > all[1][a][b]) {
                        still = false;
                    }
                }
                if (still) {
                    rests.add(100 * a + b);
                }
            }
        }
        return i == -1 ? rests.size() : in(i, 0, rests.size() - 1) ? rests.get(i) : -6;
    }

    int ring(int shop, int what) {
        if (!in(shop, 0, 1)) {
            return -1;
        }
        if (!in(what, 0, 3)) {
            return -2;
        }
        if (now.best(0, now.law) < 0 || now.best(1, now.law) < 0) {
            return -5;
        }
        List<String> came = new ArrayList<>();
        State s = now.copy();
        int next = shop;
        int changes = 0;
        int stays = 0;
        int round = 0;
        while (stays < 2) {
            String here = s.row(0) + " " + s.row(1) + " " + next;
            if (came.contains(here)) {
                round = came.size() - came.indexOf(here);
                break;
            }
            came.add(here);
            State better = s.atRow(next, s.best(next, s.law));
            if (better.left(next) > s.left(next) || !s.allowed(next, s.law)) {
                s = better;
                changes++;
                stays = 0;
            } else {
                stays++;
            }
            next = 1 - next;
        }
        return what == 0 ? changes : what == 1 ? round : s.row(what - 2);
    }

    int heads(int shop, int t) {
        if (!in(shop, 0, 1) || !isThing(t)) {
            return -1;
        }
        int found = 0;
        int most = Integer.MIN_VALUE;
        for (int h = 0; h <= 3; h++) {
            State s = now.copy();
            s.wares.get(t).head[shop] = h;
            if (s.left(shop) >= most) {
                most = s.left(shop);
                found = h;
            }
        }
        return found;
    }

    int shown(int shop, int k) {
        if (!in(shop, 0, 1)) {
            return -1;
        }
        if (!in(k, 0, 4)) {
            return -2;
        }
        int found = -1;
        int most = 0;
        for (int set = 0; set < 1 << now.wares.size(); set++) {
            State s = now.copy();
            s.window[shop] = set;
            int left = s.left(shop);
            int size = Integer.bitCount(set);
            boolean more = found < 0 || left > most || left == most && size < Integer.bitCount(found);
            if (size <= k && more) {
                found = set;
                most = left;
            }
        }
        return found;
    }

    int hurt() {
        int lawful = now.best(0, 1);
        if (lawful < 0) {
            return -5;
        }
        State with = now.atRow(0, lawful);
        State without = now.atRow(0, now.best(0, 0));
        int bits = 0;
        for (int i = 0; i < now.folks.size(); i++) {
            bits += with.saves(with.folks.get(i)) < without.saves(without.folks.get(i)) ? 1 << i : 0;
        }
        return bits;
    }

    long home(int sort, int shop, int t, int weeks, int n, int what) {
        if (!isSort(sort) || !in(shop, 0, 1) || !isThing(t) || !now.folks.get(sort).list.containsKey(t)) {
            return LOST - 1;
        }
        if (!in(n, 1, 12) || !in(what, 0, 2) || !in(weeks, 0, 4095)) {
            return LOST - 2;
        }
        Ware w = now.wares.get(t);
        Entry e = now.folks.get(sort).list.get(t);
        int shelf = now.folks.get(sort).shelf;
        int first = w.ladder.get(0);
        int last = w.ladder.get(w.ladder.size() - 1);
        int bought = 0;
        int left = 0;
        int on = 0;
        for (int week = 0; week < n; week++) {
            boolean cheap = (weeks & 1 << week) != 0 && first < last;
            if (cheap && first <= e.worth) {
                int number = e.many + (shelf - on);
                bought += number;
                left += number * (first - w.cost[shop]);
                on = shelf;
            } else {
                for (int one = 0; one < e.many; one++) {
                    if (on > 0 && !cheap) {
                        on--;
                    } else if (!cheap && last <= e.worth) {
                        bought++;
                        left += last - w.cost[shop];
                    }
                }
            }
        }
        return what == 0 ? bought : what == 1 ? left : on;
    }

    int slip(int things) {
        if (!in(things, 0, 15)) {
            return -2;
        }
        if (now.slips.size() == 30) {
            return -4;
        }
        now.slips.add(things);
        return now.slips.size();
    }

    int burn() {
        int n = now.slips.size();
        now.slips.clear();
        return n;
    }

    int with(int t, int other) {
        if (!in(t, 0, 3) || !in(other, 0, 3)) {
            return -1;
        }
        int n = 0;
        for (int slip : now.slips) {
            n += (slip >> t & 1) * (slip >> other & 1);
        }
        return n;
    }

    private static BigInteger choose(int n, int k) {
        if (k < 0 || k > n) {
            return BigInteger.ZERO;
        }
        return factorial(n).divide(factorial(k)).divide(factorial(n - k));
    }

    private static BigInteger factorial(int n) {
        return n < 2 ? BigInteger.ONE : BigInteger.valueOf(n).multiply(factorial(n - 1));
    }

    long chance(int t, int other, int part) {
        if (!in(t, 0, 3) || !in(other, 0, 3) || t == other) {
            return LOST - 1;
        }
        if (!in(part, 0, 1)) {
            return LOST - 2;
        }
        if (now.slips.isEmpty()) {
            return LOST - 3;
        }
        int all = now.slips.size();
        int ones = with(t, t);
        int others = with(other, other);
        BigInteger upper = BigInteger.ZERO;
        for (int x = with(t, other); x <= 30; x++) {
            upper = upper.add(choose(others, x).multiply(choose(all - others, ones - x)));
        }
        BigInteger lower = choose(all, ones);
        BigInteger common = upper.gcd(lower);
        return (part == 0 ? upper : lower).divide(common).longValueExact();
    }

    int edge(int shop, int t) {
        if (!in(shop, 0, 1) || !isThing(t)) {
            return -1;
        }
        int usual = now.best(shop, now.law);
        if (usual < 0) {
            return -5;
        }
        int is = now.wares.get(t).cost[shop];
        int found = -6;
        for (int c = 0; c <= 99; c++) {
            State s = now.copy();
            s.wares.get(t).cost[shop] = c;
            boolean nearer = found == -6 || Math.abs(c - is) < Math.abs(found - is);
            if (c != is && nearer) {
                int r = s.best(shop, s.law);
                found = r >= 0 && r != usual ? c : found;
            }
        }
        return found;
    }

    int image(int n) {
        if (!in(n, 0, 1)) {
            return -2;
        }
        images[n] = now.copy();
        return 1;
    }

    int restore(int n) {
        if (!in(n, 0, 1)) {
            return -2;
        }
        if (images[n] == null) {
            return -3;
        }
        now = images[n].copy();
        return 1;
    }

    int told(int what) {
        int[] counts = {now.wares.size(), now.folks.size(), now.slips.size(), pad.length(), now.law, now.rows()};
        if (in(what, 0, 5)) {
            return counts[what];
        }
        if (!in(what, 10, 21)) {
            return -2;
        }
        int t = (what - 10) / 3;
        int k = (what - 10) % 3;
        return isThing(t) && k < now.wares.get(t).ladder.size() ? now.wares.get(t).ladder.get(k) : -6;
    }
}
