/** Promises 28 to 31: heads, windows, who is hurt, and the shelf at home, reckoned by hand. */
public final class WeeksTest {
    private static final Due DUE = new Due();
    private static final long LOST = -1000000000000000000L;

    public static void main(String[] args) {
        heads();
        shown();
        hurt();
        home();
        homeBitsBehind();
        homeBitsOfNoWeek();
        homeRefused();
        DUE.end();
    }

    private static void heads() {
        SugarBelow x = new SugarBelow();
        x.thing(10, 10, 8);
        x.thing(0, 0, 5);
        x.sort(1, 6, 99, 0);
        Due.write(x, 0, "a3<10;b1<6");
        // with 3 of a they come and leave -6 + 5, with fewer they do not come
        DUE.is("28: the greatest of like ones", x.heads(0, 0), 2);
        x.change(0, 1, 0);
        DUE.is("28: they come for b, too", x.heads(0, 0), 0);
        x.change(0, 1, 1);
        DUE.is("28: one of a must be had", x.heads(0, 0), 1);
        DUE.is("28: of b any", x.heads(0, 1), 3);
        DUE.is("28: nobody there", x.heads(1, 0), 3);
        DUE.is("28: as it was", x.set(0, 0, 1, 3), 3);
        DUE.is("28: no shop", x.heads(2, 0), -1);
        DUE.is("28: no thing", x.heads(0, 2), -1);
        DUE.is("28: no thing -1", x.heads(0, -1), -1);
    }

    private static void shown() {
        SugarBelow x = new SugarBelow();
        x.thing(2, 2, 5);
        x.thing(2, 2, 4);
        x.sort(1, 8, 99, 0);
        Due.write(x, 0, "a1<10~12;b1<10~12");
        // shown, a is a gain of 5, b of 6
        DUE.is("29: none may be", x.shown(0, 0), 0);
        DUE.is("29: one is not enough", x.shown(0, 1), 0);
        DUE.is("29: both are", x.shown(0, 2), 3);
        DUE.is("29: four may be, two there are", x.shown(0, 4), 3);
        x.change(0, 1, 5);
        DUE.is("29: b is enough, a is bought then, too", x.shown(0, 4), 2);
        x.change(0, 1, 4);
        DUE.is("29: either is enough: the least as bits", x.shown(0, 4), 1);
        x.show(0, 2);
        DUE.is("29: whatever is in the window now", x.shown(0, 4), 1);
        x.set(0, 0, 0, 9);
        DUE.is("29: what they leave is less than nothing", x.shown(0, 4), 0);
        DUE.is("29: as it was", x.show(0, 0), 2);
        DUE.is("29: no shop", x.shown(2, 5), -1);
        DUE.is("29: no shop -1", x.shown(-1, 0), -1);
        DUE.is("29: outside", x.shown(0, 5), -2);
        DUE.is("29: outside -1", x.shown(0, -1), -2);
    }

    private static void hurt() {
        SugarBelow x = new SugarBelow();
        DUE.is("30: nobody", x.hurt(), 0);
        x.thing(20, 20, 10);
        x.step(0, 20);
        x.step(0, 30);
        x.thing(10, 10, 12);
        x.step(1, 20);
        x.sort(10, 25, 12, 0);
        Due.write(x, 0, "a1<30;b2<20~10");
        x.sort(1, 0, 0, 0);
        x.set(1, 0, 2, 2);
        x.set(1, 1, 2, 1);
        // with a at 10 they come (15 against 8) and save -5; else they go to SHOP 1 and save -12
        DUE.is("30: the law hurts them", x.hurt(), 1);
        x.law(1);
        DUE.is("30: whatever the law is", x.hurt(), 1);
        x.set(1, 0, 2, 0);
        x.set(1, 1, 2, 0);
        DUE.is("30: the other one is cheap", x.hurt(), 0);
        x.set(0, 0, 0, 31);
        x.law(0);
        DUE.is("30: the law would allow none", x.hurt(), -5);
        x.set(0, 0, 0, 20);
        x.set(1, 0, 0, 31);
        DUE.is("30: shop 1 does not matter", x.hurt(), 0);
    }

    private static SugarBelow pantry() {
        SugarBelow x = new SugarBelow();
        x.thing(5, 9, 8);
        x.step(0, 10);
        x.step(0, 12);
        x.sort(7, 4, 4, 0);
        Due.write(x, 0, "a2<12~9");
        x.change(0, 4, 5);
        return x;
    }

    private static void isHome(SugarBelow x, String name, int weeks, int n, long... due) {
        for (int what = 0; what < 3; what++) {
            DUE.is("31: " + name + ", what " + what, x.home(0, 0, 0, weeks, n, what), due[what]);
        }
    }

    private static void home() {
        SugarBelow x = pantry();
        // 7, then the shelf 3, then 4 (shelf 5), 3, 1, then one from the shelf and one bought at 12
        isHome(x, "weeks 0 and 2 of 6", 5, 6, 12, 11 * 3 + 7, 0);
        isHome(x, "one cheap week", 1, 1, 7, 21, 5);
        isHome(x, "one dear week", 0, 1, 2, 14, 0);
        isHome(x, "the last of 12", 1 << 11, 12, 22 + 7, 22 * 7 + 21, 5);
        isHome(x, "all of 12", (1 << 12) - 1, 12, 29, 29 * 3, 5);
        x.set(0, 0, 1, 0);
        x.set(0, 0, 2, 2);
        isHome(x, "head and step do not matter", 5, 6, 12, 40, 0);
        DUE.is("31: in shop 1", x.home(0, 1, 0, 1, 1, 1), -7);
        x.change(0, 4, 0);
        isHome(x, "no shelf", 5, 6, 12, 4 * 3 + 8 * 7, 0);
        x.change(0, 4, 3);
        Due.write(x, 0, "a2<11");
        // 5 bought, 2 from the shelf, 1 from the shelf, nothing
        isHome(x, "the last step is above worth", 1, 4, 5, 15, 0);
        isHome(x, "dear, cheap, dear", 2, 3, 5, 15, 1);
        Due.write(x, 0, "a2<8");
        isHome(x, "the first step is worth it", 1, 1, 5, 15, 3);
        Due.write(x, 0, "a2<7");
        isHome(x, "nothing is worth it", 3, 3, 0, 0, 0);
        x.thing(1, 1, 6);
        Due.write(x, 0, "b3<6");
        DUE.is("31: one step is none lower", x.home(0, 0, 1, 3, 2, 0), 6);
        DUE.is("31: so nothing is put by", x.home(0, 0, 1, 3, 2, 2), 0);
        DUE.is("31: left by it", x.home(0, 0, 1, 3, 2, 1), 30);
    }

    /** The bits are of twelve weeks: those of them behind the n-th are taken and do not matter. */
    private static void homeBitsBehind() {
        SugarBelow x = pantry();
        isHome(x, "a bit right behind", 1 << 2, 2, 4, 28, 0);
        isHome(x, "weeks 0 and 2 of 6, and all behind", 5 | 4095 << 6 & 4095, 6, 12, 40, 0);
        isHome(x, "week 0 of 1, and all behind", 4095, 1, 7, 21, 5);
        isHome(x, "none of 1, and all behind", 4094, 1, 2, 14, 0);
        isHome(x, "none of 11, the 12th", 1 << 11, 11, 22, 22 * 7, 0);
    }

    private static void homeBitsOfNoWeek() {
        SugarBelow x = pantry();
        int[] strange = {-1, -2, -4096, 1 << 12, 1 << 12 | 1, 4096 + 4095, 1 << 30, Integer.MIN_VALUE, Integer.MAX_VALUE};
        for (int weeks : strange) {
            isHome(x, "bits of no week, " + weeks, weeks, 1, LOST - 2, LOST - 2, LOST - 2);
            isHome(x, "bits of no week of 12, " + weeks, weeks, 12, LOST - 2, LOST - 2, LOST - 2);
            DUE.is("31: no sort, and bits of no week, " + weeks, x.home(1, 0, 0, weeks, 1, 0), LOST - 1);
            DUE.is("31: not there, and bits of no week, " + weeks, x.home(0, 0, 1, weeks, 1, 0), LOST - 1);
        }
        isHome(x, "refusals change nothing", 5, 6, 12, 40, 0);
    }

    private static void homeRefused() {
        SugarBelow x = pantry();
        x.thing(1, 1, 1);
        Due.write(x, 0, "a2<12~9;c1<9");
        DUE.is("31: no sort", x.home(1, 0, 0, 0, 1, 0), LOST - 1);
        DUE.is("31: no sort -1", x.home(-1, 0, 0, 0, 0, 0), LOST - 1);
        DUE.is("31: no shop", x.home(0, 2, 0, 0, 1, 0), LOST - 1);
        DUE.is("31: not on the list", x.home(0, 0, 1, 0, 1, 0), LOST - 1);
        DUE.is("31: on the list, not there", x.home(0, 0, 2, 0, 1, 0), LOST - 1);
        DUE.is("31: no thing", x.home(0, 0, -1, 0, 1, 0), LOST - 1);
        DUE.is("31: no weeks", x.home(0, 0, 0, 0, 0, 0), LOST - 2);
        DUE.is("31: too many weeks", x.home(0, 0, 0, 0, 13, 0), LOST - 2);
        DUE.is("31: weeks below 0", x.home(0, 0, 0, 0, -1, 0), LOST - 2);
        DUE.is("31: too many weeks, bits of them", x.home(0, 0, 0, 4095, 13, 0), LOST - 2);
        DUE.is("31: what", x.home(0, 0, 0, 0, 1, 3), LOST - 2);
        DUE.is("31: what -1", x.home(0, 0, 0, 0, 1, -1), LOST - 2);
    }
}
