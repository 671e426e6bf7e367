/** Each sentence of the document at its edges, and what it refuses: no word of it is left without a test. */
public final class EdgesTest {
    private static final int LAST_CALL = 512;

    public static void main(String[] args) {
        Due due = new Due();
        Document document = new Document();
        Script script = new Script(due, document);
        WhatEdges.all(script);
        TermsEdges.all(script);
        TownEdges.all(script);
        WalksEdges.all(script);
        PricesEdges.all(script);
        WeeksEdges.all(script);
        SlipsEdges.all(script);
        document.quote(Document.WHAT_IT_IS, "An object is used for at most 512 calls after it has been made; "
            + "what later calls answer is free.");
        lastCall(due);
        document.isWhole(due);
        due.end();
    }

    /** "An object is used for at most 512 calls": the last of them answers as the first one would. */
    private static void lastCall(Due due) {
        String[] last = {"best", "climb", "lures", "only", "row", "left"};
        for (String call : last) {
            SugarBelow used = new SugarBelow();
            int calls = build(used);
            for (int i = calls + 1; i < LAST_CALL; i++) {
                due.is("call " + i + " of 512", used.set(i % 2, 0, 1, i / 2 % 4), i < calls + 3 ? 3 : (i / 2 + 3) % 4);
            }
            SugarBelow fresh = new SugarBelow();
            build(fresh);
            fresh.set(1, 0, 1, (LAST_CALL - 1) / 2 % 4);
            fresh.set(0, 0, 1, (LAST_CALL - 2) / 2 % 4);
            due.is("call 512, " + call, Both.askClass(used, call, 0), Both.askClass(fresh, call, 0));
        }
        SugarBelow dear = new SugarBelow();
        int calls = build(dear);
        int rests = dear.rest(-1);
        for (int i = calls + 2; i < LAST_CALL; i += 2) {
            dear.set(0, 0, 2, i % 3);
            due.is("call " + (i + 1) + " of 512, rest", dear.rest(-1), rests);
        }
    }

    /** Two THINGS and five SORTS; answers how many calls that took. */
    private static int build(SugarBelow x) {
        x.thing(20, 20, 10);
        x.step(0, 20);
        x.step(0, 30);
        x.thing(10, 10, 12);
        x.step(1, 20);
        String list = "a1<30;b2<20~10";
        for (int sort = 0; sort < 5; sort++) {
            x.sort(10 + sort, 5 * sort, 12 + sort, sort % 3);
            Due.write(x, sort, list);
        }
        return 5 + 5 * (list.length() + 2);
    }
}
