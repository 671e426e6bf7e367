import java.util.Random;

/** Drawn towns (from fixed seeds), each asked everything, against the oracle. */
public final class TownsTest {
    private static final int TOWNS = 3000;
    /** How often something was seen that a drawn town may lack: else the test would say little. */
    private static int rings, boths, hurts, climbsShort, windows, refusals, edges, manyRests;

    private final Random random;
    private final Both both;
    private final int things;
    private final int wide;

    private TownsTest(int town) {
        random = new Random(104729L * town + 1);
        both = new Both("town " + town);
        wide = new int[] {8, 20, 50, 100}[town % 4];
        // the oracle is slow: few towns are whole
        things = town % 150 == 7 ? 4 : 1 + town % 3;
    }

    public static void main(String[] args) {
        int towns = args.length > 0 ? Integer.parseInt(args[0]) : TOWNS;
        int wrong = 0;
        for (int town = 0; town < towns; town++) {
            TownsTest test = new TownsTest(town);
            test.build();
            test.look();
            test.both.ask("law", 1);
            test.look();
            wrong += test.both.isWrong() ? 1 : 0;
        }
        int[] seen = {rings, boths, hurts, climbsShort, windows, refusals, edges, manyRests};
        StringBuilder text = new StringBuilder("seen:");
        // of fewer towns than are usual nothing can be asked but that none goes wrong
        boolean enough = towns > 0;
        for (int number : seen) {
            text.append(' ').append(number);
            enough &= number > 20 || towns < TOWNS;
        }
        System.out.println(text + (enough ? "" : " (too few)"));
        System.out.println(towns + " towns, " + wrong + " went wrong");
        System.exit(wrong == 0 && enough ? 0 : 1);
    }

    private void build() {
        for (int t = 0; t < things; t++) {
            int low = random.nextInt(wide / 2);
            int costs = random.nextInt(3) == 0 ? wide : wide / 2;
            int cost = random.nextInt(costs);
            both.ask("thing", cost, random.nextInt(3) == 0 ? random.nextInt(costs) : cost, low);
            int steps = random.nextInt(4);
            for (int k = 0; k < steps; k++) {
                both.ask("step", t, both.oracle.told(10 + 3 * t + k) + 1 + random.nextInt(wide / 3));
            }
        }
        int sorts = 1 + random.nextInt(5);
        for (int s = 0; s < sorts; s++) {
            int far = wide / (1 + random.nextInt(20)) + 1;
            both.ask("sort", 1 + random.nextInt(9), random.nextInt(far), random.nextInt(far), random.nextInt(7) % 3);
            both.write(s, Draw.rightList(random, wide, Math.min(things, 1 + random.nextInt(4))).toString());
        }
        for (int shop = 0; shop < 2; shop++) {
            both.ask("show", shop, random.nextInt(16) & random.nextInt(16));
            for (int t = 0; t < things; t++) {
                both.ask("set", shop, t, 2, random.nextInt(3));
                if (random.nextInt(4) == 0) {
                    both.ask("set", shop, t, 1, random.nextInt(4));
                }
            }
        }
    }

    private void look() {
        for (int s = 0; s < both.oracle.told(1); s++) {
            both.ask("thinks", s, 0);
            both.ask("thinks", s, 1);
            both.ask("thinks", s, 2);
            boths += both.ask("goes", s) == 3 ? 1 : 0;
            both.ask("saves", s);
            for (int t = 0; t < things; t++) {
                both.ask("buys", s, 0, t);
                both.ask("buys", s, 1, t);
            }
        }
        hurts += both.ask("hurt") > 0 ? 1 : 0;
        both.ask("rest", 0);
        both.ask("rest", 1);
        manyRests += both.ask("rest", -1) > 1 ? 1 : 0;
        for (int shop = 0; shop < 2; shop++) {
            lookAt(shop);
        }
    }

    private void lookAt(int shop) {
        both.ask("row", shop);
        both.ask("left", shop);
        both.ask("only", shop);
        refusals += both.ask("best", shop) == -5 ? 1 : 0;
        both.ask("lures", shop);
        both.ask("climb", shop);
        climbsShort += both.ask("most", shop, 0) > both.ask("most", shop, 1) ? 1 : 0;
        both.ask("most", shop, 2);
        for (int what = 0; what < 4; what++) {
            rings += both.ask("ring", shop, what) > 0 && what == 1 ? 1 : 0;
        }
        for (int k = 0; k < 5; k++) {
            windows += both.ask("shown", shop, k) > 0 ? 1 : 0;
        }
        for (int t = 0; t < things; t++) {
            both.ask("heads", shop, t);
            both.ask("brings", shop, t);
            edges += things < 4 && both.ask("edge", shop, t) >= 0 ? 1 : 0;
        }
    }
}
