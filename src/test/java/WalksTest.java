/** Promises 14 to 19: where people go and what they buy, reckoned by hand. */
public final class WalksTest {
    private static final Due DUE = new Due();
    private static final long LOST = -1000000000000000000L;

    public static void main(String[] args) {
        guessesAndWindows();
        both();
        below();
        heads();
        ties();
        realPrices();
        thingsToCome();
        unknown();
        rows();
        DUE.end();
    }

    /** a at 8 in SHOP 0, at 15 in SHOP 1; b at 6 in both; three who know b and take a for 12. */
    private static SugarBelow town() {
        SugarBelow x = new SugarBelow();
        x.thing(10, 12, 8);
        x.step(0, 15);
        x.thing(5, 5, 6);
        x.step(1, 9);
        x.sort(3, 2, 4, 1);
        Due.write(x, 0, "a2<20~12;b1<10");
        x.set(1, 0, 2, 1);
        return x;
    }

    private static void guessesAndWindows() {
        SugarBelow x = town();
        DUE.is("14: shop 0", x.thinks(0, 0), 16 + 4 - 2);
        DUE.is("14: shop 1", x.thinks(0, 1), 16 + 4 - 4);
        DUE.is("14: both", x.thinks(0, 2), 16 + 4 - 6);
        DUE.is("15: goes", x.goes(0), 1);
        DUE.is("16: a", x.buys(0, 0, 0), 2);
        DUE.is("16: b", x.buys(0, 0, 1), 1);
        DUE.is("16: a elsewhere", x.buys(0, 1, 0), 0);
        DUE.is("17: saves", x.saves(0), 24 + 4 - 2);
        DUE.is("18: left", x.left(0), 3 * (2 * (8 - 10) + (6 - 5)));
        DUE.is("18: left of 1", x.left(1), 0);
        x.show(1, 1);
        DUE.is("14: shop 1 with a window", x.thinks(0, 1), 10 + 4 - 4);
        DUE.is("14: shop 0 without", x.thinks(0, 0), 18);
        x.show(0, 1);
        DUE.is("14: shop 0 with a window", x.thinks(0, 0), 24 + 4 - 2);
        x.show(0, 2);
        DUE.is("14: a window with what is known", x.thinks(0, 0), 18);
    }

    private static void both() {
        SugarBelow x = town();
        x.show(0, 1);
        x.show(1, 1);
        x.set(0, 1, 2, 1);
        x.change(0, 1, 1);
        x.change(0, 2, 1);
        DUE.is("14: shop 0, b dear", x.thinks(0, 0), 24 + 1 - 1);
        DUE.is("14: shop 1, a dear", x.thinks(0, 1), 10 + 4 - 1);
        DUE.is("14: each where it gains more", x.thinks(0, 2), 24 + 4 - 2);
        DUE.is("15: to both", x.goes(0), 3);
        DUE.is("16: a here", x.buys(0, 0, 0), 2);
        DUE.is("16: b not here", x.buys(0, 0, 1), 0);
        DUE.is("16: a not there", x.buys(0, 1, 0), 0);
        DUE.is("16: b there", x.buys(0, 1, 1), 1);
        DUE.is("17: less both ways", x.saves(0), 24 + 4 - 2);
        DUE.is("18: left of 0", x.left(0), 3 * 2 * (8 - 10));
        DUE.is("18: left of 1", x.left(1), 3 * (6 - 5));
        x.change(0, 3, 0);
        DUE.is("15: to one alone", x.goes(0), 1);
        DUE.is("14: both all the same", x.thinks(0, 2), 26);
        x.set(1, 1, 1, 0);
        DUE.is("14: no b there", x.thinks(0, 2), 24 + 1 - 2);
    }

    private static void below() {
        SugarBelow x = town();
        x.show(0, 1);
        x.show(1, 1);
        x.change(0, 3, 2);
        DUE.is("14: way 2: a alone is below cost", x.thinks(0, 0), 24 - 2);
        DUE.is("14: way 2: nothing is", x.thinks(0, 1), -4);
        DUE.is("14: both as by way 1", x.thinks(0, 2), 24 + 4 - 6);
        DUE.is("15: way 2", x.goes(0), 1);
        DUE.is("16: what is below", x.buys(0, 0, 0), 2);
        DUE.is("16: what is not", x.buys(0, 0, 1), 0);
        DUE.is("17: of that alone", x.saves(0), 24 - 2);
        x.set(0, 0, 0, 8);
        DUE.is("14: at cost is not below", x.thinks(0, 0), -2);
        DUE.is("15: nowhere", x.goes(0), 0);
        DUE.is("17: nowhere", x.saves(0), 0);
        x.set(0, 0, 0, 10);
        x.show(0, 0);
        DUE.is("14: a guess above cost is not below", x.thinks(0, 0), -2);
        x.set(0, 0, 0, 13);
        DUE.is("14: a guess below cost is", x.thinks(0, 0), 16 - 2);
    }

    private static void heads() {
        SugarBelow x = town();
        x.set(0, 0, 1, 1);
        DUE.is("14: one a head", x.thinks(0, 0), 8 + 4 - 2);
        DUE.is("15: to the other one", x.goes(0), 2);
        x.change(0, 2, 50);
        DUE.is("16: one a head", x.buys(0, 0, 0), 1);
        DUE.is("17: one a head", x.saves(0), 12 + 4 - 2);
        x.set(0, 0, 1, 0);
        DUE.is("16: none a head", x.buys(0, 0, 0), 0);
        DUE.is("18: b alone", x.left(0), 3);
    }

    private static void ties() {
        SugarBelow x = new SugarBelow();
        x.thing(1, 1, 4);
        x.thing(1, 1, 4);
        x.sort(1, 3, 3, 1);
        Due.write(x, 0, "a1<7");
        DUE.is("15: nowhere before a shop", x.goes(0), 0);
        Due.write(x, 0, "a1<8");
        DUE.is("15: shop 0 before 1", x.goes(0), 1);
        x.change(0, 1, 4);
        DUE.is("15: shop 1 alone is worth it", x.goes(0), 2);
        x.change(0, 1, 0);
        x.change(0, 2, 0);
        DUE.is("15: one shop before both", x.goes(0), 1);
        x.set(0, 0, 1, 0);
        DUE.is("15: shop 1 before both", x.goes(0), 2);
        Due.write(x, 0, "a1<8;b1<8");
        DUE.is("15: shop 1 has both things", x.goes(0), 2);
        x.set(1, 1, 1, 0);
        DUE.is("15: each has one", x.goes(0), 3);
        DUE.is("16: a there", x.buys(0, 1, 0), 1);
        DUE.is("16: b here", x.buys(0, 0, 1), 1);
        x.thing(1, 1, 5);
        Due.write(x, 0, "a1<8;b1<8;c1<9");
        DUE.is("16: of like gains shop 0", x.buys(0, 0, 2), 1);
        DUE.is("16: of like gains not 1", x.buys(0, 1, 2), 0);
    }

    private static void realPrices() {
        SugarBelow x = new SugarBelow();
        x.thing(1, 1, 50);
        x.thing(1, 1, 5);
        x.sort(2, 1, 99, 0);
        Due.write(x, 0, "a3<40~10;b1<5~9");
        DUE.is("14: it thinks well of it", x.thinks(0, 0), 90 - 1);
        DUE.is("15: it goes", x.goes(0), 1);
        DUE.is("16: it is too dear", x.buys(0, 0, 0), 0);
        DUE.is("16: worth its price is enough", x.buys(0, 0, 1), 1);
        DUE.is("17: the way was for nothing", x.saves(0), -1);
        DUE.is("18: left", x.left(0), 2 * (5 - 1));
    }

    private static void thingsToCome() {
        SugarBelow x = new SugarBelow();
        x.sort(2, 1, 9, 0);
        x.show(0, 2);
        Due.write(x, 0, "b2<30~29");
        x.thing(0, 0, 5);
        DUE.is("14: not there yet", x.thinks(0, 0), -1);
        x.thing(0, 0, 20);
        DUE.is("14: there, in the window", x.thinks(0, 0), 20 - 1);
        DUE.is("14: there, guessed", x.thinks(0, 1), 2 - 9);
        DUE.is("18: left", x.left(0), 2 * 2 * 20);
    }

    private static void unknown() {
        SugarBelow x = town();
        DUE.is("14: no sort", x.thinks(1, 0), LOST - 1);
        DUE.is("14: no sort -1", x.thinks(-1, 5), LOST - 1);
        DUE.is("14: outside", x.thinks(0, 3), LOST - 2);
        DUE.is("14: outside -1", x.thinks(0, -1), LOST - 2);
        DUE.is("15: no sort", x.goes(1), -1);
        DUE.is("15: no sort -1", x.goes(-1), -1);
        DUE.is("16: no sort", x.buys(1, 0, 0), -1);
        DUE.is("16: no shop", x.buys(0, 2, 0), -1);
        DUE.is("16: no thing", x.buys(0, 0, 2), -1);
        DUE.is("16: no thing -1", x.buys(0, 0, -1), -1);
        DUE.is("17: no sort", x.saves(1), LOST - 1);
        DUE.is("17: no sort -1", x.saves(-1), LOST - 1);
        DUE.is("18: no shop", x.left(2), LOST - 1);
        DUE.is("18: no shop -1", x.left(-1), LOST - 1);
        DUE.is("19: no shop", x.row(2), -1);
        DUE.is("19: no shop -1", x.row(-1), -1);
    }

    private static void rows() {
        SugarBelow x = new SugarBelow();
        x.thing(0, 0, 1);
        x.step(0, 2);
        x.thing(0, 0, 1);
        x.step(1, 2);
        x.step(1, 3);
        x.set(0, 0, 2, 1);
        x.set(0, 1, 2, 2);
        DUE.is("19: row", x.row(0), 1 * 3 + 2);
        DUE.is("19: row of the other", x.row(1), 0);
        x.thing(0, 0, 7);
        DUE.is("19: a thing of one step", x.row(0), 5);
        x.step(2, 8);
        DUE.is("19: a step more", x.row(0), 10);
        x.set(1, 2, 2, 1);
        DUE.is("19: the last counts least", x.row(1), 1);
        DUE.is("39: rows", x.told(5), 12);
    }
}
