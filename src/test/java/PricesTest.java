/** Promises 20 to 27: prices of one shop and of both, reckoned by hand. */
public final class PricesTest {
    private static final Due DUE = new Due();
    private static final long LOST = -1000000000000000000L;

    public static void main(String[] args) {
        lure();
        lawful();
        climbing();
        climbingAgain();
        brings();
        only();
        round();
        rests();
        ringByLaw();
        restsAfterEachChange();
        wholeTown();
        oneShopForbidden();
        refused();
        DUE.end();
    }

    /** Ten come for a below cost and pay b dearly, three come for a alone (a run of ../shared/tests). */
    private static SugarBelow town() {
        SugarBelow x = new SugarBelow();
        x.thing(20, 20, 10);
        x.step(0, 20);
        x.step(0, 30);
        x.thing(10, 10, 12);
        x.step(1, 20);
        x.sort(10, 10, 12, 0);
        Due.write(x, 0, "a1<30;b2<20~10");
        x.sort(3, 0, 0, 2);
        Due.write(x, 1, "a3<30");
        return x;
    }

    private static void lure() {
        SugarBelow x = town();
        DUE.is("20: best", x.best(0), 1);
        DUE.is("21: by best", x.most(0, 0), 10 * (-10 + 20) - 3 * 30);
        DUE.is("21: by one by one", x.most(0, 1), 0);
        DUE.is("21: bound", x.most(0, 2), 100 + 0);
        DUE.is("22: climb", x.climb(0), 2);
        DUE.is("23: lures", x.lures(0), 1);
        DUE.is("19: as it was", x.row(0), 0);
        DUE.is("18: as it was", x.left(0), -150);
        x.set(0, 1, 0, 21);
        DUE.is("20: nothing pays", x.best(0), 2);
        DUE.is("23: b is below cost in best", x.lures(0), 2);
    }

    private static void lawful() {
        SugarBelow x = town();
        x.law(1);
        DUE.is("20: the first that is allowed", x.best(0), 2);
        DUE.is("21: by law", x.most(0, 0), 0);
        DUE.is("21: bound by law", x.most(0, 2), 0);
        DUE.is("23: none by law", x.lures(0), 0);
        DUE.is("22: climb by law", x.climb(0), 2);
        x.set(0, 0, 0, 30);
        DUE.is("20: at cost is allowed", x.best(0), 4);
        x.set(0, 0, 0, 31);
        DUE.is("20: none is allowed", x.best(0), -5);
        DUE.is("21: none is allowed", x.most(0, 0), LOST - 5);
        DUE.is("21: nor one by one", x.most(0, 1), LOST - 5);
        DUE.is("21: nor a bound", x.most(0, 2), LOST - 5);
        DUE.is("23: none is allowed", x.lures(0), -5);
        DUE.is("22: b alone may move, and brings more", x.climb(0), 1);
        DUE.is("20: the other one may", x.best(1), 2);
        x.set(0, 0, 1, 0);
        DUE.is("20: a head of 0 is no way round the law", x.best(0), -5);
    }

    /** If both things are dear nobody comes: which one is dear depends on where it starts. */
    private static void climbing() {
        SugarBelow x = new SugarBelow();
        x.thing(5, 5, 4);
        x.step(0, 9);
        x.thing(5, 5, 6);
        x.step(1, 10);
        x.sort(1, 0, 99, 0);
        Due.write(x, 0, "a1<9;b1<10");
        DUE.is("22: from the lowest", x.climb(0), 2);
        DUE.is("21: left there", x.most(0, 1), 4 + 1);
        // with both prices at WORTH nobody comes, so that the two things can not both be dear
        DUE.is("20: best", x.best(0), 2);
        x.set(0, 0, 2, 1);
        x.set(0, 1, 2, 1);
        DUE.is("18: nobody", x.left(0), 0);
        DUE.is("22: from the highest a goes down first", x.climb(0), 1);
        DUE.is("21: left there", x.most(0, 1), -1 + 5);
        DUE.is("20: best is the same", x.best(0), 2);
        x.law(1);
        DUE.is("22: by law a may not", x.climb(0), 2);
        x.set(0, 0, 2, 0);
        x.set(0, 1, 2, 0);
        DUE.is("22: by law up it may", x.climb(0), 2);
        x.change(0, 1, 50);
        DUE.is("22: it stays below cost if nothing is more", x.climb(0), 0);
        DUE.is("19: a question changes nothing", x.row(0), 0);
    }

    /** Both things move, and then the first once more. */
    private static void climbingAgain() {
        SugarBelow x = new SugarBelow();
        x.thing(0, 0, 3);
        x.step(0, 6);
        x.step(0, 9);
        x.thing(0, 0, 4);
        x.step(1, 9);
        // one who comes if a and b are below 13 together, five who want b at 4
        x.sort(1, 7, 99, 0);
        Due.write(x, 0, "a1<10;b1<10");
        x.sort(5, 0, 99, 0);
        Due.write(x, 1, "b1<5");
        x.set(0, 0, 2, 2);
        x.set(0, 1, 2, 1);
        // a to 3 (12 are left), b to 4 (3 + 4 + 20), a to 6 (6 + 4 + 20); with a at 9 the one stays away
        DUE.is("22: a, b, and a again", x.climb(0), 2);
        DUE.is("21: left there", x.most(0, 1), 30);
    }

    private static void brings() {
        SugarBelow x = town();
        x.set(0, 1, 2, 1);
        DUE.is("18: as it is", x.left(0), 10);
        DUE.is("24: a brings those who buy b", x.brings(0, 0), 10 - 0);
        DUE.is("24: b is at its last step", x.brings(0, 1), 0);
        x.set(0, 1, 2, 0);
        DUE.is("24: b at its first", x.brings(0, 1), -150 - 10);
        DUE.is("24: no shop", x.brings(2, 0), LOST - 1);
        DUE.is("24: no thing", x.brings(0, 2), LOST - 1);
        DUE.is("24: no thing -1", x.brings(0, -1), LOST - 1);
    }

    private static void only() {
        SugarBelow x = town();
        DUE.is("25: those of way 2", x.only(0), 2);
        DUE.is("25: nobody there", x.only(1), 0);
        Due.write(x, 0, "a1<30");
        DUE.is("25: now all", x.only(0), 3);
        x.set(0, 0, 0, 10);
        DUE.is("25: at cost is not below", x.only(0), 0);
        x.set(0, 0, 0, 11);
        x.set(0, 0, 1, 0);
        DUE.is("25: who buys nothing does not count", x.only(0), 0);
        DUE.is("25: no shop", x.only(2), -1);
        DUE.is("25: no shop -1", x.only(-1), -1);
    }

    /** One sort to each shop alone, one to the cheaper; undercutting from 9 to 5, then up again. */
    private static SugarBelow undercutters() {
        SugarBelow x = new SugarBelow();
        x.thing(0, 0, 5);
        x.step(0, 7);
        x.step(0, 9);
        x.sort(1, 0, 99, 0);
        x.sort(1, 99, 0, 0);
        x.sort(1, 0, 0, 0);
        for (int sort = 0; sort < 3; sort++) {
            Due.write(x, sort, "a1<20");
        }
        return x;
    }

    private static void isRing(SugarBelow x, String name, int shop, int... due) {
        for (int what = 0; what < 4; what++) {
            DUE.is("27: " + name + ", what " + what, x.ring(shop, what), due[what]);
        }
    }

    private static void round() {
        SugarBelow x = undercutters();
        // 0 stays at 5; 1 to 9; 0 to 9; 1 to 7; 0 to 7; 1 to 5; 0 to 5; 1 is next again
        isRing(x, "shop 0 first", 0, 6, 6, 0, 0);
        isRing(x, "shop 1 first", 1, 6, 6, 0, 0);
        DUE.is("26: no rest", x.rest(-1), 0);
        DUE.is("26: none", x.rest(0), -6);
        x.set(1, 0, 2, 2);
        // 0 to 9, and so on to both at 5 with 1 next, which goes to 9
        isRing(x, "from (5, 9)", 0, 6, 6, 0, 2);
        // 1 stays at 9: it has but its own, and at 5 no more; then 0 goes to 9
        isRing(x, "from (5, 9), 1 first", 1, 6, 6, 0, 2);
        x.set(0, 0, 2, 1);
        x.set(1, 0, 2, 0);
        isRing(x, "from (7, 5)", 0, 6, 6, 1, 0);
        x.change(0, 0, 99);
        x.change(1, 0, 99);
        isRing(x, "each stays dear to its own", 0, 2, 0, 2, 2);
        isRing(x, "and so with 1 first", 1, 2, 0, 2, 2);
        DUE.is("26: a rest", x.rest(-1), 1);
        DUE.is("26: which", x.rest(0), 202);
        DUE.is("26: no other", x.rest(1), -6);
        DUE.is("26: below", x.rest(-2), -6);
        DUE.is("19: it stands as it stood", x.row(0) * 10 + x.row(1), 10);
    }

    private static void rests() {
        SugarBelow x = new SugarBelow();
        DUE.is("26: no things: one pair", x.rest(-1), 1);
        DUE.is("26: that", x.rest(0), 0);
        x.thing(3, 4, 2);
        x.step(0, 4);
        x.step(0, 6);
        DUE.is("26: nobody buys: all pairs", x.rest(-1), 9);
        int[] due = {0, 1, 2, 100, 101, 102, 200, 201, 202, -6};
        for (int i = 0; i < due.length; i++) {
            DUE.is("26: the " + i + "-th", x.rest(i), due[i]);
        }
        isRing(x, "nobody moves", 1, 0, 0, 0, 0);
        x.law(1);
        DUE.is("26: by law", x.rest(-1), 4);
        int[] allowed = {101, 102, 201, 202, -6};
        for (int i = 0; i < allowed.length; i++) {
            DUE.is("26: by law the " + i + "-th", x.rest(i), allowed[i]);
        }
        isRing(x, "both must move by law", 0, 2, 0, 1, 1);
        x.set(1, 0, 2, 2);
        isRing(x, "0 must move by law", 1, 1, 0, 1, 2);
    }

    private static void ringByLaw() {
        SugarBelow x = undercutters();
        x.set(0, 0, 0, 6);
        x.law(1);
        // SHOP 0 has 7 at the least: against 5 it has 3 at 9 and 1 at 7, and against 9 it has 6 at 9
        DUE.is("20: by law", x.best(0), 2);
        // 0 to 9 (it may not stand at 5); 1 to 7; 0 stays (2 at 7 is less than 3); 1 stays
        isRing(x, "by law", 0, 2, 0, 2, 1);
        DUE.is("26: by law one", x.rest(-1), 1);
        DUE.is("26: by law", x.rest(0), 201);
    }

    private static void areRests(SugarBelow x, String name, int many, int first) {
        DUE.is("26: " + name + ", how many", x.rest(-1), many);
        DUE.is("26: " + name + ", the first", x.rest(0), first);
    }

    /** What was reckoned for one town must not be told of the next; nobody ever goes to SHOP 1. */
    private static void restsAfterEachChange() {
        SugarBelow x = new SugarBelow();
        x.thing(0, 0, 5);
        x.step(0, 7);
        x.sort(1, 14, 99, 0);
        Due.write(x, 0, "a1<20;b1<50");
        areRests(x, "they come at 5 alone", 2, 0);
        x.image(0);
        x.thing(0, 0, 8);
        areRests(x, "with b they come at 7, too", 2, 100);
        x.step(0, 9);
        areRests(x, "and at 9", 3, 200);
        x.step(1, 40);
        areRests(x, "and with b at 40", 6, 500);
        x.set(0, 1, 1, 0);
        areRests(x, "no b a head: at 5 again", 12, 0);
        x.set(0, 0, 0, 6);
        areRests(x, "who comes at 5 costs", 24, 200);
        Due.write(x, 0, "a1<20~1");
        areRests(x, "they take it for 1", 12, 400);
        x.show(0, 1);
        areRests(x, "it is in the window", 24, 200);
        x.change(0, 1, 0);
        areRests(x, "it is not far", 12, 400);
        x.change(0, 3, 2);
        areRests(x, "below cost alone", 24, 200);
        x.sort(1, 0, 99, 0);
        areRests(x, "some who want nothing", 24, 200);
        Due.write(x, 1, "a1<9");
        areRests(x, "some who come at 7", 12, 200);
        x.set(1, 0, 2, 2);
        areRests(x, "where it stands does not matter", 12, 200);
        x.restore(0);
        areRests(x, "as at first", 2, 0);
        isRing(x, "as at first", 1, 0, 0, 0, 0);
    }

    /** Four things of three steps: 81 ROWS, nobody buys. */
    private static void wholeTown() {
        SugarBelow x = new SugarBelow();
        for (int thing = 0; thing < 4; thing++) {
            x.thing(1, 1, 1);
            x.step(thing, 2);
            x.step(thing, 3);
            x.set(0, thing, 2, 2);
            x.set(1, thing, 2, 2);
        }
        DUE.is("39: rows", x.told(5), 81);
        DUE.is("19: the last row", x.row(0), 80);
        isRing(x, "all stay", 1, 0, 0, 80, 80);
        DUE.is("26: all pairs", x.rest(-1), 81 * 81);
        DUE.is("26: the last pair", x.rest(81 * 81 - 1), 8080);
        DUE.is("26: and no more", x.rest(81 * 81), -6);
        DUE.is("20: best", x.best(0), 0);
        x.sort(2, 0, 0, 1);
        Due.write(x, 0, "a1<9;b1<9;c1<9;d1<9");
        // SHOP 0 sells all at 3; with one thing at 2, a first, they come to SHOP 1 and buy all there
        DUE.is("20: against 3", x.best(1), 27 + 2 * 9 + 2 * 3 + 2);
        DUE.is("21: against 3", x.most(1, 0), 2 * (1 + 3 * 2));
        DUE.is("20: of like sums they come to shop 0", x.best(0), 80);
    }

    private static void oneShopForbidden() {
        SugarBelow x = undercutters();
        x.set(1, 0, 0, 10);
        x.law(1);
        DUE.is("20: shop 0 has rows", x.best(0), 0);
        DUE.is("20: shop 1 has none", x.best(1), -5);
        DUE.is("26: so there is no pair", x.rest(-1), -5);
        DUE.is("26: whatever is asked", x.rest(-2), -5);
        DUE.is("27: nor a ring", x.ring(0, 0), -5);
        DUE.is("27: unknown before no", x.ring(2, 9), -1);
        DUE.is("27: outside before no", x.ring(0, 4), -2);
        DUE.is("21: outside before no", x.most(1, 3), LOST - 2);
        x.law(0);
        DUE.is("26: without law", x.rest(-5), -6);
    }

    private static void refused() {
        SugarBelow x = town();
        int[] none = {2, -1};
        for (int shop : none) {
            DUE.is("20: no shop", x.best(shop), -1);
            DUE.is("21: no shop", x.most(shop, 0), LOST - 1);
            DUE.is("21: unknown before outside", x.most(shop, 3), LOST - 1);
            DUE.is("22: no shop", x.climb(shop), -1);
            DUE.is("23: no shop", x.lures(shop), -1);
            DUE.is("27: no shop", x.ring(shop, 0), -1);
        }
        DUE.is("21: outside", x.most(0, 3), LOST - 2);
        DUE.is("21: outside -1", x.most(0, -1), LOST - 2);
        DUE.is("27: outside", x.ring(0, 4), -2);
        DUE.is("27: outside -1", x.ring(1, -1), -2);
    }
}
