/** 'What it is', from its first words to its last, in one town of which all can be seen. */
final class WhatEdges {
    /**
     * Sugar (a) and coffee (b); ten who guess what coffee is, six who come for what is below cost, six who may go
     * to both shops. Sugar is dear in both: LEFT is 0 and 328. README.md has the same town.
     */
    private static final String TOWN = """
        thing 20 20 15 | step 0 24 | thing 10 10 22
        sort 10 7 2 0 | write 0 a1<25;b1<27~16 = 2
        sort 6 2 2 2 | write 1 a2<23 = 1
        sort 6 7 3 1 | write 2 a1<25;b2<24 = 2
        set 0 0 2 1 | set 1 0 2 1
        """;

    private final Script script;

    private WhatEdges(Script script) {
        this.script = script;
    }

    static void all(Script script) {
        WhatEdges what = new WhatEdges(script);
        what.town();
        what.walks();
        what.prices();
        what.bothShops();
        what.headsAndWindows();
        what.weeks();
        what.slips();
    }

    private void test(String words, String tried, String calls) {
        script.test(Document.WHAT_IT_IS, words, tried, TOWN + calls);
    }

    private void town() {
        test("Sugar below cost: two shops, things with ladders of prices", "its rungs, and where it stands", """
            row 0 = 1 | row 1 = 1 | row 2 = UNKNOWN | told 5 = 2 | told 10 = 15 | told 11 = 24 | told 12 = NONE
            told 13 = 22 | set 0 0 2 0 = 1 | row 0 = 0 | row 1 = 1 | left 0 = 124 | left 1 = 0
            """);
        test("people by sorts with lists that are told as small texts: how many of what, what it is worth to them, "
            + "what they know its price to be or guess;", "each number of them", """
            told 1 = 3 | says a1<25;b1<27~ = 12 | fault = 12 | list 0 = NO | say 57 | fault = NONE
            item 0 1 0 = 1 | item 0 1 1 = 27 | item 0 1 2 = 16 | list 0 = 2 | item 0 1 2 = 9
            item 0 0 2 = NONE | item 1 0 0 = 2 | item 1 0 1 = 23 | item 1 1 0 = NONE
            """);
    }

    private void walks() {
        test("where they go by what they think, who goes to both, who takes but what is below cost;", "one of each", """
            thinks 0 0 = 5 | thinks 0 1 = 10 | goes 0 = 2 | buys 0 1 1 = 1 | saves 0 = 4
            goes 1 = 0 | set 0 0 2 0 | thinks 1 0 = 14 | goes 1 = 1 | buys 1 0 0 = 2 | set 0 0 0 15 | goes 1 = 0
            goes 2 = 1 | change 2 1 0 | change 2 2 0 | set 0 1 1 1 | thinks 2 0 = 12 | thinks 2 1 = 5
            thinks 2 2 = 14 | goes 2 = 3 | buys 2 0 0 = 1 | buys 2 1 0 = 0 | buys 2 0 1 = 0 | buys 2 1 1 = 2
            """);
        test("what each shop is left with;", "with sugar dear, and below cost in either", """
            left 0 = 0 | left 1 = 328 | set 0 0 2 0 | left 0 = 124 | left 1 = 0 | set 1 0 2 0 | left 0 = -60
            left 1 = 184
            set 0 0 2 1 | left 0 = 0 | left 1 = 124
            """);
    }

    private void prices() {
        test("the best prices against the other's, found whole and one by one, a bound;", "of both shops", """
            best 0 = 0 | most 0 0 = 124 | climb 0 = 0 | most 0 1 = 124 | most 0 2 = 184
            best 1 = 1 | most 1 0 = 328 | climb 1 = 1 | most 1 1 = 328 | most 1 2 = 328
            """);
        test("things below cost and what they bring;", "sugar in either shop", """
            lures 0 = 1 | lures 1 = 0 | brings 0 0 = 0 | set 0 0 2 0 | brings 0 0 = 124 | brings 0 1 = 0
            only 0 = 2 | lures 1 = 1 | set 1 0 2 0 | brings 0 0 = -60 | brings 1 0 = 184
            """);
        test("by how little a cost must move;", "sugar's and coffee's", """
            edge 0 0 = 25 | edge 0 1 = 16 | set 0 0 0 24 | best 0 = 0 | set 0 0 0 25 | best 0 = 1 | set 0 0 0 20
            set 0 1 0 15 | best 0 = 0 | set 0 1 0 16 | best 0 = 1
            """);
    }

    private void bothShops() {
        test("rests of both, rings of undercutting;", "none at rest, four turns round; by law both rest", """
            rest -1 = 0 | rest 0 = NONE | ring 0 0 = 4 | ring 0 1 = 4 | ring 0 2 = 1 | ring 0 3 = 1
            ring 1 0 = 4 | ring 1 1 = 4 | ring 1 2 = 1 | ring 1 3 = 1
            law 1 | rest -1 = 1 | rest 0 = 101 | ring 0 0 = 0 | ring 0 1 = 0
            """);
        test("a law against it and who is hurt by that;", "all three sorts, though the law is not there yet", """
            hurt = 7 | law 1 = 0 | hurt = 7 | best 0 = 1 | lures 0 = 0 | most 0 0 = 0 | saves 0 = 4 | saves 1 = 0
            saves 2 = 2 | law 0 = 1 | set 0 0 2 0 | saves 0 = 8 | saves 1 = 14 | saves 2 = 7
            """);
    }

    private void headsAndWindows() {
        test("so many a head;", "one keeps the hunters from taking two", """
            set 0 0 2 0 | heads 0 0 = 1 | set 0 0 1 1 = 3 | left 0 = 154 | buys 1 0 0 = 1 | set 0 0 1 2 | left 0 = 124
            set 0 0 1 0 | left 0 = 0 | left 1 = 328
            """);
        test("lists in the window;", "who guess too high come when they see it, who guess too low do not", """
            write 0 b1<27~26 = 1 | goes 0 = 0 | shown 1 0 = 0 | shown 1 1 = 2 | shown 1 4 = 2 | shown 0 4 = 0
            show 1 2 = 0 | thinks 0 1 = 3 | goes 0 = 2 | left 1 = 288
            write 0 a1<25;b1<27~16 = 2 | show 0 2 = 0 | thinks 0 0 = -1 | set 0 0 2 0 | thinks 0 0 = 8
            """);
    }

    private void weeks() {
        test("what is put by at home through weeks;", "two of four weeks are cheap", """
            change 0 4 2 = 0 | home 0 0 0 5 4 0 = 5 | home 0 0 0 5 4 1 = -25 | home 0 0 0 5 4 2 = 1
            home 0 0 0 0 4 0 = 4 | home 0 0 0 0 4 1 = 16 | home 0 0 0 15 4 0 = 6 | home 0 0 0 15 4 2 = 2
            """);
        test("images.", "kept, changed, had again", """
            slip 3 | image 0 = 1 | set 0 0 2 0 | burn = 1 | law 1 | image 1 = 1 | restore 0 = 1 | row 0 = 1
            told 2 = 1 | told 4 = 0 | restore 1 = 1 | row 0 = 0 | told 2 = 0 | told 4 = 1
            """);
    }

    private void slips() {
        test("slips of the till, what goes with what beyond chance, by odds;", "both or neither on four of them", """
            slip 3 | slip 3 | slip 0 | slip 0 = 4 | with 0 1 = 2 | with 0 0 = 2 | chance 0 1 0 = 1 | chance 0 1 1 = 6
            chance 0 2 0 = 1 | chance 0 2 1 = 1
            """);
    }
}
