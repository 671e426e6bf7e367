/** Promises 1 to 13: the town and its lists, reckoned by hand. */
public final class TownTest {
    private static final Due DUE = new Due();
    private static final int LOWEST = Integer.MIN_VALUE;
    private static final int HIGHEST = Integer.MAX_VALUE;

    public static void main(String[] args) {
        aNewObject();
        thing();
        step();
        set();
        show();
        sort();
        change();
        sayAndWipe();
        fault();
        list();
        item();
        law();
        DUE.end();
    }

    private static void aNewObject() {
        SugarBelow x = new SugarBelow();
        int[] due = {0, 0, 0, 0, 0, 1};
        for (int what = 0; what < due.length; what++) {
            DUE.is("1: told(" + what + ")", x.told(what), due[what]);
        }
        for (int what = 10; what < 22; what++) {
            DUE.is("1: told(" + what + ")", x.told(what), -6);
        }
        DUE.is("1: row", x.row(0), 0);
        DUE.is("1: show", x.show(0, 0), 0);
        DUE.is("1: show of 1", x.show(1, 0), 0);
        DUE.is("1: fault", x.fault(), 0);
        DUE.is("1: image 0", x.restore(0), -3);
        DUE.is("1: image 1", x.restore(1), -3);
        SugarBelow other = new SugarBelow();
        x.thing(1, 2, 3);
        DUE.is("1: two objects share nothing", other.told(0), 0);
    }

    private static void thing() {
        SugarBelow x = new SugarBelow();
        int[][] wrong = {{-1, 0, 0}, {100, 0, 0}, {0, -1, 0}, {0, 100, 0}, {0, 0, -1}, {0, 0, 100},
            {LOWEST, 0, 0}, {0, HIGHEST, 0}, {0, 0, LOWEST}};
        for (int[] w : wrong) {
            DUE.is("2: thing outside", x.thing(w[0], w[1], w[2]), -2);
        }
        DUE.is("2: nothing changed", x.told(0), 0);
        DUE.is("2: edges low", x.thing(0, 0, 0), 0);
        DUE.is("2: edges high", x.thing(99, 99, 99), 1);
        DUE.is("2: third", x.thing(1, 2, 3), 2);
        DUE.is("2: fourth", x.thing(4, 5, 6), 3);
        DUE.is("2: fifth", x.thing(4, 5, 6), -4);
        DUE.is("2: outside before full", x.thing(4, 5, 100), -2);
        DUE.is("2: costs of shop 0", x.set(0, 3, 0, 1), 4);
        DUE.is("2: costs of shop 1", x.set(1, 3, 0, 1), 5);
        DUE.is("2: price", x.told(19), 6);
        DUE.is("2: head", x.set(0, 3, 1, 0), 3);
        DUE.is("2: head of 1", x.set(1, 3, 1, 0), 3);
        DUE.is("2: step", x.set(0, 3, 2, 0), 0);
        DUE.is("2: things", x.told(0), 4);
    }

    private static void step() {
        SugarBelow x = new SugarBelow();
        DUE.is("3: no thing", x.step(0, 5), -1);
        x.thing(1, 1, 5);
        DUE.is("3: no thing 1", x.step(1, 100), -1);
        DUE.is("3: no thing -1", x.step(-1, 9), -1);
        DUE.is("3: the same price", x.step(0, 5), -2);
        DUE.is("3: a lower price", x.step(0, 4), -2);
        DUE.is("3: above 99", x.step(0, 100), -2);
        DUE.is("3: far below", x.step(0, LOWEST), -2);
        DUE.is("3: second", x.step(0, 6), 1);
        DUE.is("3: third", x.step(0, 99), 2);
        DUE.is("3: outside before full", x.step(0, 99), -2);
        x.thing(1, 1, 0);
        x.step(1, 1);
        x.step(1, 2);
        DUE.is("3: full", x.step(1, 3), -4);
        DUE.is("3: rows", x.told(5), 9);
        int[] due = {5, 6, 99, 0, 1, 2, -6, -6};
        for (int i = 0; i < due.length; i++) {
            DUE.is("3: price " + i, x.told(10 + i), due[i]);
        }
    }

    private static void set() {
        SugarBelow x = new SugarBelow();
        DUE.is("4: no thing", x.set(0, 0, 0, 0), -1);
        x.thing(7, 8, 1);
        x.step(0, 2);
        DUE.is("4: no shop", x.set(2, 0, 0, 0), -1);
        DUE.is("4: no shop -1", x.set(-1, 0, 0, 0), -1);
        DUE.is("4: no thing 1", x.set(0, 1, 9, 0), -1);
        DUE.is("4: no thing -1", x.set(0, -1, 0, 0), -1);
        DUE.is("4: no step", x.set(0, 0, 2, 2), -1);
        DUE.is("4: no step -1", x.set(0, 0, 2, -1), -1);
        DUE.is("4: no such what", x.set(0, 0, 3, 0), -2);
        DUE.is("4: no such what -1", x.set(0, 0, -1, 0), -2);
        DUE.is("4: cost outside", x.set(0, 0, 0, 100), -2);
        DUE.is("4: cost outside -1", x.set(0, 0, 0, -1), -2);
        DUE.is("4: head outside", x.set(0, 0, 1, 4), -2);
        DUE.is("4: head outside -1", x.set(0, 0, 1, -1), -2);
        DUE.is("4: cost", x.set(0, 0, 0, 99), 7);
        DUE.is("4: cost again", x.set(0, 0, 0, 0), 99);
        DUE.is("4: cost of 1", x.set(1, 0, 0, 3), 8);
        DUE.is("4: head", x.set(1, 0, 1, 2), 3);
        DUE.is("4: head again", x.set(1, 0, 1, 0), 2);
        DUE.is("4: head of 0", x.set(0, 0, 1, 3), 3);
        DUE.is("4: step", x.set(1, 0, 2, 1), 0);
        DUE.is("4: step again", x.set(1, 0, 2, 1), 1);
        DUE.is("4: row of 1", x.row(1), 1);
        DUE.is("4: row of 0", x.row(0), 0);
    }

    private static void show() {
        SugarBelow x = new SugarBelow();
        DUE.is("5: no shop", x.show(2, 0), -1);
        DUE.is("5: unknown before outside", x.show(-1, 16), -1);
        DUE.is("5: outside", x.show(0, 16), -2);
        DUE.is("5: outside -1", x.show(0, -1), -2);
        DUE.is("5: things that are not there", x.show(0, 15), 0);
        DUE.is("5: which it was", x.show(0, 9), 15);
        DUE.is("5: the other", x.show(1, 1), 0);
        DUE.is("5: still", x.show(0, 0), 9);
    }

    private static void sort() {
        SugarBelow x = new SugarBelow();
        int[][] wrong = {{0, 0, 0, 0}, {100, 0, 0, 0}, {1, -1, 0, 0}, {1, 100, 0, 0}, {1, 0, -1, 0}, {1, 0, 100, 0},
            {1, 0, 0, -1}, {1, 0, 0, 3}, {LOWEST, 0, 0, 0}, {1, 0, 0, HIGHEST}};
        for (int[] w : wrong) {
            DUE.is("6: sort outside", x.sort(w[0], w[1], w[2], w[3]), -2);
        }
        DUE.is("6: none yet", x.told(1), 0);
        DUE.is("6: first", x.sort(1, 0, 0, 0), 0);
        DUE.is("6: second", x.sort(99, 99, 98, 2), 1);
        DUE.is("6: third", x.sort(1, 2, 3, 1), 2);
        DUE.is("6: fourth", x.sort(1, 2, 3, 1), 3);
        DUE.is("6: fifth", x.sort(1, 2, 3, 1), 4);
        DUE.is("6: sixth", x.sort(1, 2, 3, 1), -4);
        DUE.is("6: outside before full", x.sort(1, 2, 3, 3), -2);
        DUE.is("6: an empty list", x.item(1, 0, 0), -6);
        int[] due = {99, 99, 98, 2, 0};
        for (int what = 0; what < 5; what++) {
            DUE.is("6: what it has, " + what, x.change(1, what, 1), due[what]);
        }
    }

    private static void change() {
        SugarBelow x = new SugarBelow();
        DUE.is("7: no sort", x.change(0, 0, 1), -1);
        x.sort(5, 6, 7, 1);
        x.sort(15, 16, 17, 2);
        DUE.is("7: unknown before outside", x.change(2, 9, 1), -1);
        DUE.is("7: no sort -1", x.change(-1, 0, 1), -1);
        int[][] wrong = {{0, 0}, {0, 100}, {1, -1}, {1, 100}, {2, -1}, {2, 100}, {3, -1}, {3, 3}, {4, -1}, {4, 7},
            {5, 0}, {-1, 0}};
        for (int[] w : wrong) {
            DUE.is("7: change " + w[0] + " to " + w[1], x.change(0, w[0], w[1]), -2);
        }
        int[] was = {5, 6, 7, 1, 0};
        int[] high = {99, 99, 99, 2, 6};
        int[] low = {1, 0, 0, 0, 0};
        for (int what = 0; what < 5; what++) {
            DUE.is("7: to its highest, " + what, x.change(0, what, high[what]), was[what]);
        }
        for (int what = 0; what < 5; what++) {
            DUE.is("7: to its lowest, " + what, x.change(0, what, low[what]), high[what]);
        }
        DUE.is("7: the other has its own", x.change(1, 2, 0), 17);
    }

    private static void sayAndWipe() {
        SugarBelow x = new SugarBelow();
        DUE.is("8: below", x.say(32), -2);
        DUE.is("8: above", x.say(127), -2);
        DUE.is("8: far", x.say(LOWEST), -2);
        DUE.is("8: lowest", x.say(33), 1);
        DUE.is("8: highest", x.say(126), 2);
        for (int i = 3; i <= 40; i++) {
            DUE.is("8: sign " + i, x.say('a'), i);
        }
        DUE.is("8: full", x.say('a'), -4);
        DUE.is("8: outside before full", x.say(200), -2);
        DUE.is("8: told", x.told(3), 40);
        DUE.is("9: wipe", x.wipe(), 40);
        DUE.is("9: wipe again", x.wipe(), 0);
        DUE.is("9: told", x.told(3), 0);
        DUE.is("9: say again", x.say('a'), 1);
    }

    private static void fault() {
        // a text, THE FAULT
        Object[][] texts = {
            {"", 0}, {"a", 1}, {"a1", 2}, {"a1<", 3}, {"a1<5", -6}, {"a1<57", -6}, {"a1<57~", 6}, {"a1<57~0", -6},
            {"a1<57~00", -6}, {"a1<5~9", -6}, {"e", 0}, {"A", 0}, {"`", 0}, {"1", 0}, {";", 0}, {"a0", 1}, {"a4", 1},
            {"aa", 1}, {"a1;", 2}, {"a1>", 2}, {"a1<<", 3}, {"a1<~", 3}, {"a1<:", 3}, {"a1</", 3}, {"a1<123", 5},
            {"a1<12<", 5}, {"a1<1a", 4}, {"a1<1~~", 5}, {"a1<1~;", 5}, {"a1<1~123", 7}, {"a1<1~1~", 6},
            {"a1<1~12~", 7}, {"a1<1;", 5}, {"a1<1;;", 5}, {"a1<1;a", 5}, {"a1<1;b", 6}, {"a1<1;b2<2", -6},
            {"d3<99~99;c3<99~99;b3<99~99;a3<99~99", -6}, {"d3<99~99;c3<99~99;b3<99~99;a3<99~99;", 35},
            {"d1<9;c1<9;b1<9;a1<9;", 19}, {"d1<9;c1<9;b1<9;d", 15}, {"d1<9;c1<9;b1<9;", 15}, {"b1<1;a1<1;b1<1", 10},
            {"a1<1!", 4}, {"a1<01~05;b1<00", -6}};
        for (Object[] text : texts) {
            SugarBelow x = new SugarBelow();
            Due.say(x, (String) text[0]);
            DUE.is("10: fault of " + text[0], x.fault(), (Integer) text[1]);
            DUE.is("10: and again of " + text[0], x.fault(), (Integer) text[1]);
            DUE.is("10: signs of " + text[0], x.told(3), ((String) text[0]).length());
        }
    }

    private static void list() {
        SugarBelow x = new SugarBelow();
        DUE.is("11: no sort, no text", x.list(0), -1);
        x.sort(1, 1, 1, 0);
        DUE.is("11: no text", x.list(0), -5);
        Due.say(x, "a1<1;");
        DUE.is("11: unknown before no", x.list(1), -1);
        DUE.is("11: unknown -1", x.list(-1), -1);
        DUE.is("11: a fault", x.list(0), -5);
        DUE.is("11: the signs stay", x.told(3), 5);
        Due.say(x, "c2<30~7");
        DUE.is("11: items", x.list(0), 2);
        DUE.is("11: the signs are gone", x.told(3), 0);
        DUE.is("11: four", Due.write(x, 0, "d1<1;c1<1;b1<1;a1<1"), 4);
        DUE.is("11: the list is another", Due.write(x, 0, "b3<4"), 1);
        DUE.is("11: what was is not on it", x.item(0, 0, 0), -6);
        DUE.is("11: what is", x.item(0, 1, 0), 3);
    }

    private static void item() {
        SugarBelow x = new SugarBelow();
        DUE.is("12: no sort", x.item(0, 0, 0), -1);
        x.sort(1, 1, 1, 0);
        x.sort(1, 1, 1, 0);
        Due.write(x, 1, "c2<30~7;a3<05;d1<0~0");
        int[][] due = {{3, 5, -6}, {-6, -6, -6}, {2, 30, 7}, {1, 0, 0}};
        for (int thing = 0; thing < 4; thing++) {
            for (int what = 0; what < 3; what++) {
                DUE.is("12: item " + thing + " " + what, x.item(1, thing, what), due[thing][what]);
                DUE.is("12: the other's " + thing + " " + what, x.item(0, thing, what), -6);
            }
        }
        DUE.is("12: no thing", x.item(1, 4, 0), -1);
        DUE.is("12: unknown before outside", x.item(1, -1, 3), -1);
        DUE.is("12: no sort 2", x.item(2, 0, 3), -1);
        DUE.is("12: outside", x.item(1, 0, 3), -2);
        DUE.is("12: outside -1", x.item(1, 0, -1), -2);
        DUE.is("12: outside before none", x.item(1, 1, 3), -2);
    }

    private static void law() {
        SugarBelow x = new SugarBelow();
        DUE.is("13: outside", x.law(2), -2);
        DUE.is("13: outside -1", x.law(-1), -2);
        DUE.is("13: first", x.law(1), 0);
        DUE.is("13: again", x.law(1), 1);
        DUE.is("13: told", x.told(4), 1);
        DUE.is("13: back", x.law(0), 1);
        DUE.is("13: told 0", x.told(4), 0);
    }
}
