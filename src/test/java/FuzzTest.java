import java.util.Random;

/** Runs of 512 drawn calls (from fixed seeds), right and wrong ones, against the oracle. */
public final class FuzzTest {
    private static final int RUNS = 500;
    private static final int CALLS = 512;
    private static final int[] STRANGE = {
        Integer.MIN_VALUE, Integer.MAX_VALUE, -1, -2, -6, 2, 3, 4, 5, 6, 7, 15, 16, 30, 31, 32, 33, 99, 100, 127, 4096};
    /** A call and what its numbers are: n any, d a distance, b bits, s a SORT, t a THING, h a SHOP, else below that. */
    private static final String[] CALLS_DRAWN = {
        "show h b", "item s 4 3", "law 2", "thinks s 3", "goes s", "buys s h t", "saves s", "left h", "row h",
        "best h", "most h 3", "climb h", "lures h", "brings h t", "only h", "rest 9", "rest 1", "ring h 4", "heads h t",
        "shown h 5", "hurt", "slip b", "with 4 4", "chance 4 4 2", "edge h t", "image 2", "told 23", "fault",
        "set h t 1 n", "set h t 3 4", "set h t 3 3", "set h t 3 2", "change s 3 d", "change s 5 3", "change s 5 7"};
    private static final String[] SELDOM = {
        "thing n n n", "step t n", "sort n d d 3", "say 130", "wipe", "burn", "restore 2", "list s", "wipe"};

    private final Random random;
    private final Both both;
    private final int run;
    /** Numbers of one run are drawn from a narrow or a wide range: narrow ones make ties. */
    private final int wide;
    private final int mostThings;

    private FuzzTest(int run) {
        this.run = run;
        both = new Both("run " + run);
        random = new Random(7919L * run + 13);
        wide = new int[] {6, 12, 30, 100}[run % 4];
        mostThings = 1 + run % 3;
    }

    public static void main(String[] args) {
        int runs = args.length > 0 ? Integer.parseInt(args[0]) : RUNS;
        int wrong = 0;
        long calls = 0;
        for (int run = 0; run < runs; run++) {
            FuzzTest test = new FuzzTest(run);
            test.go();
            wrong += test.both.isWrong() ? 1 : 0;
            calls += test.both.calls();
        }
        System.out.println(calls + " calls, " + wrong + " runs went wrong");
        System.exit(wrong == 0 && calls > 0 ? 0 : 1);
    }

    private void go() {
        build();
        while (both.calls() < CALLS && !both.isWrong()) {
            int kind = random.nextInt(60);
            if (kind == 0) {
                both.write(some(both.oracle.told(1)), Draw.list(random, wide));
            } else if (kind < 5) {
                home();
            } else {
                String[] from = kind < 12 ? SELDOM : CALLS_DRAWN;
                call(from[random.nextInt(from.length)]);
            }
        }
    }

    private void build() {
        for (int t = 0; t < mostThings; t++) {
            call("thing n n n");
            call("step t n");
            call("step t n");
        }
        int sorts = 1 + random.nextInt(4);
        for (int s = 0; s < sorts; s++) {
            both.ask("sort", 1 + random.nextInt(10), distance(), distance(), random.nextInt(3));
            both.write(s, Draw.list(random, wide));
            both.ask("change", s, 4, random.nextInt(7));
        }
        int slips = run % 3 == 0 ? 31 : random.nextInt(12);
        for (int i = 0; i < slips; i++) {
            both.ask("slip", random.nextInt(16) & (run % 2 == 0 ? random.nextInt(16) : 15));
        }
    }

    private void call(String form) {
        String[] words = form.split(" ");
        int[] numbers = new int[words.length - 1];
        for (int i = 0; i < numbers.length; i++) {
            numbers[i] = random.nextInt(40) == 0 ? STRANGE[random.nextInt(STRANGE.length)] : drawn(words[i + 1]);
        }
        both.ask(words[0], numbers);
    }

    private int drawn(String kind) {
        switch (kind) {
            case "n":
                return random.nextInt(wide);
            case "d":
                return distance();
            case "b":
                return random.nextInt(16);
            case "s":
                return some(both.oracle.told(1));
            case "t":
                return some(both.oracle.told(0));
            case "h":
                return random.nextInt(2);
            default:
                return random.nextInt(Integer.parseInt(kind)) - (kind.equals("1") ? 1 : 0);
        }
    }

    private int some(int n) {
        return random.nextInt(Math.max(1, n));
    }

    /** SHOPS are near in most runs, else few would go there, and fewer to both. */
    private int distance() {
        return random.nextInt(run % 5 == 0 ? wide : wide / 6 + 1);
    }

    private void home() {
        int n = random.nextInt(20) == 0 ? STRANGE[random.nextInt(STRANGE.length)] : 1 + random.nextInt(12);
        int high = 1 << Math.max(1, Math.min(n, 12));
        int weeks = strangeWeeks(random.nextInt(20), random.nextInt(high));
        int what = random.nextInt(20) == 0 ? 3 : random.nextInt(3);
        both.ask("home", some(both.oracle.told(1)), random.nextInt(2), some(both.oracle.told(0)), weeks, n, what);
    }

    /** Bits behind the n-th week, right at and behind the twelfth, any at all; else those given. */
    private int strangeWeeks(int kind, int usual) {
        switch (kind) {
            case 0:
                return random.nextInt();
            case 1:
                return 4090 + random.nextInt(12);
            case 2:
                return -1 - random.nextInt(3);
            case 3:
            case 4:
                return random.nextInt(4096);
            default:
                return usual;
        }
    }
}
