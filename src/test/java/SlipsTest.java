/** Promises 32 to 39: slips, edges, images and what is told, reckoned by hand. */
public final class SlipsTest {
    private static final Due DUE = new Due();
    private static final long LOST = -1000000000000000000L;

    public static void main(String[] args) {
        slips();
        with();
        chance();
        chanceByCounting();
        edge();
        images();
        told();
        DUE.end();
    }

    private static void slips() {
        SugarBelow x = new SugarBelow();
        DUE.is("33: none", x.burn(), 0);
        DUE.is("32: outside", x.slip(16), -2);
        DUE.is("32: outside -1", x.slip(-1), -2);
        for (int i = 1; i <= 30; i++) {
            DUE.is("32: slip " + i, x.slip(i % 2 == 0 ? 0 : 15), i);
        }
        DUE.is("32: full", x.slip(1), -4);
        DUE.is("32: outside before full", x.slip(16), -2);
        DUE.is("39: slips", x.told(2), 30);
        DUE.is("34: on them", x.with(3, 0), 15);
        DUE.is("33: burn", x.burn(), 30);
        DUE.is("33: burn again", x.burn(), 0);
        DUE.is("34: on none", x.with(3, 0), 0);
        DUE.is("32: again", x.slip(2), 1);
        DUE.is("34: what was is gone", x.with(0, 0), 0);
    }

    private static SugarBelow till(int... slips) {
        SugarBelow x = new SugarBelow();
        for (int slip : slips) {
            x.slip(slip);
        }
        return x;
    }

    private static void with() {
        SugarBelow x = till(3, 3, 1, 0, 4, 12);
        int[][] due = {{3, 2, 0, 0}, {2, 2, 0, 0}, {0, 0, 2, 1}, {0, 0, 1, 1}};
        for (int a = 0; a < 4; a++) {
            for (int b = 0; b < 4; b++) {
                DUE.is("34: with " + a + " " + b, x.with(a, b), due[a][b]);
            }
        }
        DUE.is("34: no thing", x.with(4, 0), -1);
        DUE.is("34: no other", x.with(0, 4), -1);
        DUE.is("34: no thing -1", x.with(-1, 0), -1);
        DUE.is("34: no other -1", x.with(0, -1), -1);
    }

    private static void isChance(SugarBelow x, int a, int b, long upper, long lower) {
        DUE.is("35: upper of " + a + " " + b, x.chance(a, b, 0), upper);
        DUE.is("35: lower of " + a + " " + b, x.chance(a, b, 1), lower);
    }

    private static void chance() {
        SugarBelow x = till(3, 1, 2, 0);
        // two of four are drawn, two are marked, at least one is to be hit: all but 1 of 6
        isChance(x, 0, 1, 5, 6);
        isChance(x, 1, 0, 5, 6);
        // no slip has c: none is drawn, or none is marked
        isChance(x, 0, 2, 1, 1);
        isChance(x, 2, 0, 1, 1);
        isChance(till(15), 0, 3, 1, 1);
        isChance(till(3, 0), 0, 1, 1, 2);
        isChance(till(3, 3, 0, 0), 0, 1, 1, 6);
        int[] half = new int[30];
        for (int i = 0; i < 30; i++) {
            half[i] = i < 15 ? 3 : 12;
        }
        isChance(till(half), 0, 1, 1, 155117520);
        isChance(till(half), 0, 2, 1, 1);
        half[29] = 3;
        half[0] = 2;
        // 15 drawn, 16 marked of 30, all 15 hit: 16 of 155117520
        isChance(till(half), 0, 1, 1, 155117520 / 16);
        SugarBelow none = new SugarBelow();
        DUE.is("35: no slips", none.chance(0, 1, 0), LOST - 3);
        DUE.is("35: outside before state", none.chance(0, 1, 2), LOST - 2);
        DUE.is("35: unknown before outside", none.chance(0, 0, 2), LOST - 1);
        DUE.is("35: no thing", x.chance(4, 0, 0), LOST - 1);
        DUE.is("35: no other", x.chance(0, 4, 0), LOST - 1);
        DUE.is("35: no thing -1", x.chance(-1, 0, 0), LOST - 1);
        DUE.is("35: both are one", x.chance(2, 2, 0), LOST - 1);
        DUE.is("35: outside", x.chance(0, 1, 2), LOST - 2);
        DUE.is("35: outside -1", x.chance(0, 1, -1), LOST - 2);
    }

    /** All draws of as many as the one's SLIPS, gone through one by one. */
    private static void chanceByCounting() {
        int[] slips = {3, 3, 3, 1, 1, 2, 2, 0, 4, 7, 6, 0, 2};
        SugarBelow x = till(slips);
        int drawn = 0;
        int marked = 0;
        int hit = 0;
        for (int i = 0; i < slips.length; i++) {
            drawn += slips[i] & 1;
            marked |= (slips[i] >> 1 & 1) << i;
            hit += slips[i] & slips[i] >> 1 & 1;
        }
        long all = 0;
        long fits = 0;
        for (int set = 0; set < 1 << slips.length; set++) {
            if (Integer.bitCount(set) == drawn) {
                all++;
                fits += Integer.bitCount(set & marked) >= hit ? 1 : 0;
            }
        }
        DUE.is("35: by counting", x.chance(0, 1, 0) * all, x.chance(0, 1, 1) * fits);
        DUE.is("35: 6 of 13", all, 1716);
    }

    private static void edge() {
        SugarBelow x = new SugarBelow();
        x.thing(4, 4, 5);
        x.step(0, 9);
        x.sort(10, 0, 99, 0);
        Due.write(x, 0, "a1<6");
        x.sort(3, 0, 99, 0);
        Due.write(x, 1, "a1<10");
        // 13 * (5 - cost) against 3 * (9 - cost): the first is more up to a COST of 3
        DUE.is("20: best", x.best(0), 1);
        DUE.is("36: a little less", x.edge(0, 0), 3);
        x.set(0, 0, 0, 0);
        DUE.is("36: from 0 up", x.edge(0, 0), 4);
        x.law(1);
        DUE.is("36: by law the same", x.edge(0, 0), 4);
        x.set(0, 0, 0, 9);
        DUE.is("36: costs with no row are passed over", x.edge(0, 0), 3);
        x.set(0, 0, 0, 10);
        DUE.is("36: no row as it is", x.edge(0, 0), -5);
        DUE.is("36: nobody: by law at once above the first", x.edge(1, 0), 6);
        x.law(0);
        DUE.is("36: nobody: none", x.edge(1, 0), -6);
        DUE.is("36: as it was", x.set(0, 0, 0, 10), 10);
        DUE.is("36: no shop", x.edge(2, 0), -1);
        DUE.is("36: no thing", x.edge(0, 1), -1);
        DUE.is("36: no thing -1", x.edge(0, -1), -1);
        edgeOfLikeOnes();
        edgeAtTheTop();
    }

    /** BEST turns at a COST one lower and at one higher alike. */
    private static void edgeOfLikeOnes() {
        SugarBelow x = new SugarBelow();
        x.thing(2, 2, 5);
        x.step(0, 7);
        x.step(0, 9);
        int[] many = {52, 28, 63};
        String[] lists = {"a1<6", "a1<8", "a1<10"};
        for (int sort = 0; sort < 3; sort++) {
            x.sort(many[sort], 0, 99, 0);
            Due.write(x, sort, lists[sort]);
        }
        // 143 buy at 5, 91 at 7, 63 at 9: at COST 2 it is 429, 455, 441; at 1 it is 572, 546, 504; at 3 286, 364, 378
        DUE.is("20: the middle one", x.best(0), 1);
        DUE.is("36: of like ones the lesser", x.edge(0, 0), 1);
        x.set(0, 0, 0, 1);
        DUE.is("20: the first", x.best(0), 0);
        DUE.is("36: up", x.edge(0, 0), 2);
        x.set(0, 0, 0, 99);
        // so dear that each one who comes costs: the fewest at 9
        DUE.is("20: the last", x.best(0), 2);
        DUE.is("36: far down", x.edge(0, 0), 2);
    }

    /** By law a COST of 99 alone forbids the first STEP. */
    private static void edgeAtTheTop() {
        SugarBelow x = new SugarBelow();
        x.thing(0, 98, 98);
        x.step(0, 99);
        x.law(1);
        DUE.is("36: from 0 to 99", x.edge(0, 0), 99);
        DUE.is("36: from 98 to 99", x.edge(1, 0), 99);
        x.set(0, 0, 0, 99);
        DUE.is("36: from 99 down", x.edge(0, 0), 98);
        x.law(0);
        DUE.is("36: without law", x.edge(0, 0), -6);
    }

    private static void images() {
        SugarBelow x = new SugarBelow();
        DUE.is("37: outside", x.image(2), -2);
        DUE.is("37: outside -1", x.image(-1), -2);
        DUE.is("38: outside", x.restore(2), -2);
        DUE.is("38: outside -1", x.restore(-1), -2);
        DUE.is("38: not kept", x.restore(0), -3);
        DUE.is("37: an empty one", x.image(0), 1);
        DUE.is("38: the other was not kept", x.restore(1), -3);
        fill(x);
        DUE.is("37: a full one", x.image(1), 1);
        Due.say(x, "a1<9");
        DUE.is("38: the empty one", x.restore(0), 1);
        int[] empty = {0, 0, 0, 4, 0, 1};
        for (int what = 0; what < 6; what++) {
            DUE.is("38: empty, told " + what, x.told(what), empty[what]);
        }
        DUE.is("38: no window", x.show(0, 0), 0);
        // what is made anew is as new, whatever stood there before
        DUE.is("2: a thing", x.thing(1, 2, 3), 0);
        DUE.is("2: its rows", x.told(5), 1);
        DUE.is("2: its row", x.row(1), 0);
        DUE.is("2: its head", x.set(1, 0, 1, 3), 3);
        DUE.is("6: a sort", x.sort(1, 0, 0, 0), 0);
        DUE.is("6: its list", x.item(0, 0, 0), -6);
        DUE.is("6: its shelf", x.change(0, 4, 2), 0);
        DUE.is("11: the signs were left", x.list(0), 1);
        DUE.is("38: the full one", x.restore(1), 1);
        isFull(x);
        x.restore(0);
        DUE.is("38: an image stays as it was kept", x.told(0), 0);
        x.restore(1);
        isFull(x);
        x.image(0);
        DUE.is("37: kept anew", x.restore(0), 1);
        isFull(x);
    }

    private static void fill(SugarBelow x) {
        x.thing(20, 30, 40);
        x.step(0, 50);
        x.set(1, 0, 1, 2);
        x.set(1, 0, 2, 1);
        x.show(0, 5);
        x.sort(7, 8, 9, 1);
        Due.write(x, 0, "a2<60~45");
        x.change(0, 4, 6);
        x.slip(3);
        x.slip(1);
        x.law(1);
        x.rest(-1);
    }

    private static void isFull(SugarBelow x) {
        int[] full = {1, 1, 2, 0, 1, 2};
        for (int what = 0; what < 6; what++) {
            DUE.is("38: full, told " + what, x.told(what), full[what]);
        }
        DUE.is("38: price", x.told(11), 50);
        DUE.is("38: cost", x.set(0, 0, 0, 20), 20);
        DUE.is("38: cost of 1", x.set(1, 0, 0, 30), 30);
        DUE.is("38: head", x.set(1, 0, 1, 2), 2);
        DUE.is("38: row", x.row(1), 1);
        DUE.is("38: window", x.show(0, 5), 5);
        DUE.is("38: list", x.item(0, 0, 1), 60);
        int[] folk = {7, 8, 9, 1, 6};
        for (int what = 0; what < 5; what++) {
            DUE.is("38: sort, " + what, x.change(0, what, folk[what]), folk[what]);
        }
        DUE.is("38: slips", x.with(0, 1), 1);
        // a at 40 here (shown: a gain of 40), taken for 45 there
        DUE.is("14: thinks", x.thinks(0, 0), 40 - 8);
        DUE.is("18: left", x.left(0), 7 * 2 * 20);
        // a is taken for 45 at SHOP 1 at any price, and for real at SHOP 0: 32 at 40, 12 at 50
        DUE.is("26: rests", x.rest(-1), 2);
        DUE.is("26: rest", x.rest(0), 0);
    }

    private static void told() {
        SugarBelow x = new SugarBelow();
        x.thing(1, 1, 5);
        x.thing(1, 1, 6);
        x.step(1, 7);
        int[] due = {5, -6, -6, 6, 7, -6, -6, -6, -6, -6, -6, -6};
        for (int i = 0; i < due.length; i++) {
            DUE.is("39: price " + i, x.told(10 + i), due[i]);
        }
        DUE.is("39: things", x.told(0), 2);
        DUE.is("39: rows", x.told(5), 2);
        int[] outside = {-1, 6, 7, 8, 9, 22, 100, Integer.MIN_VALUE, Integer.MAX_VALUE};
        for (int what : outside) {
            DUE.is("39: outside " + what, x.told(what), -2);
        }
    }
}
