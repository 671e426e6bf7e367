/** All that can be seen of an object: two that stand alike are seen alike. The object is used up by it. */
final class Sight {
    /** No look at an object needs more calls: they are counted among its 512. */
    static final int MOST_CALLS = 260;

    private final SugarBelow x;
    private final StringBuilder text = new StringBuilder();
    private int calls;

    private Sight(SugarBelow x) {
        this.x = x;
    }

    static String of(SugarBelow x) {
        Sight sight = new Sight(x);
        sight.counts("now");
        sight.signs();
        sight.goods();
        sight.people();
        sight.till();
        sight.takesTheSigns();
        for (int n = 0; n < 2; n++) {
            sight.add("image " + n, x.restore(n));
            sight.counts("image " + n);
        }
        if (sight.calls > MOST_CALLS) {
            throw new IllegalStateException("a look needs " + sight.calls + " calls");
        }
        return sight.text.toString();
    }

    private void add(String name, long answer) {
        calls++;
        text.append(name).append(' ').append(answer).append('\n');
    }

    private void counts(String when) {
        for (int what = 0; what < 22; what++) {
            if (what < 6 || what > 9) {
                add(when + " told " + what, x.told(what));
            }
        }
        for (int shop = 0; shop < 2; shop++) {
            add(when + " row " + shop, x.row(shop));
            add(when + " left " + shop, x.left(shop));
        }
    }

    private void signs() {
        add("fault", x.fault());
    }

    /** What is asked by putting another number there is put back. */
    private void goods() {
        int things = x.told(0);
        calls++;
        for (int shop = 0; shop < 2; shop++) {
            int window = x.show(shop, 0);
            add("window " + shop, window);
            x.show(shop, window);
            calls++;
            for (int thing = 0; thing < things; thing++) {
                for (int what = 0; what < 2; what++) {
                    int was = x.set(shop, thing, what, 0);
                    add("set " + shop + " " + thing + " " + what, was);
                    x.set(shop, thing, what, was);
                    calls++;
                }
            }
        }
    }

    private void people() {
        int sorts = x.told(1);
        calls++;
        for (int sort = 0; sort < sorts; sort++) {
            for (int what = 0; what < 5; what++) {
                int was = x.change(sort, what, 1);
                add("change " + sort + " " + what, was);
                x.change(sort, what, was);
                calls++;
            }
            items(sort);
        }
    }

    private void items(int sort) {
        for (int thing = 0; thing < 4; thing++) {
            for (int what = 0; what < 3; what++) {
                add("item " + sort + " " + thing + " " + what, x.item(sort, thing, what));
            }
        }
    }

    private void till() {
        for (int thing = 0; thing < 4; thing++) {
            for (int other = thing; other < 4; other++) {
                add("with " + thing + " " + other, x.with(thing, other));
            }
        }
    }

    /** What the signs say can be seen only where they are taken for a LIST. */
    private void takesTheSigns() {
        add("list 0", x.list(0));
        items(0);
    }
}
