/** Promises 20 to 27 at their edges: the best prices of a shop, rests and rings of both. */
final class PricesEdges {
    /** One SORT to each SHOP alone and one to the cheaper one: 5, 7 or 9, which cost nothing. */
    private static final String UNDERCUTTERS = """
        thing 0 0 5 | step 0 7 | step 0 9 | sort 1 0 99 0 | sort 1 99 0 0 | sort 1 0 0 0
        write 0 a1<20 = 1 | write 1 a1<20 = 1 | write 2 a1<20 = 1
        """;
    /** Ten come for a below COST and pay b dearly, three come for what is below COST alone. */
    private static final String LURED = """
        thing 20 20 10 | step 0 20 | step 0 30 | thing 10 10 12 | step 1 20 | sort 10 10 12 0
        write 0 a1<30;b2<20~10 = 2
        sort 3 0 0 2 | write 1 a3<30 = 1
        """;
    /** Four THINGS of three STEPS, of which the last alone is not below COST; the SHOPS stand there. */
    private static final String WHOLE = """
        times 4 thing 3 3 1 = 3 | step 0 2 | step 0 3 | step 1 2 | step 1 3 | step 2 2 | step 2 3 | step 3 2
        step 3 3
        set 0 0 2 2 | set 0 1 2 2 | set 0 2 2 2 | set 0 3 2 2 | set 1 0 2 2 | set 1 1 2 2 | set 1 2 2 2 | set 1 3 2 2
        """;
    /** Two buy at 4 or 6, one of them at 12, too: 8, 12 and 12 are left. */
    private static final String LIKE_ONES = """
        thing 0 0 4 | step 0 6 | step 0 12 | sort 1 0 99 0 | write 0 a1<7 = 1 | sort 1 0 99 0 | write 1 a1<13 = 1
        """;

    private final Script script;

    private PricesEdges(Script script) {
        this.script = script;
    }

    static void all(Script script) {
        PricesEdges prices = new PricesEdges(script);
        prices.best();
        prices.bestByLaw();
        prices.most();
        prices.bound();
        prices.climb();
        prices.climbByLaw();
        prices.lures();
        prices.brings();
        prices.only();
        prices.rests();
        prices.restsByLaw();
        prices.ringAtRest();
        prices.ringRound();
        prices.ringByLaw();
        prices.refused();
    }

    private void best() {
        script.test(20, "BEST: the ROW.", "the only one, the first of two, the last of 81", """
            best 0 = 0 | thing 0 0 1 | best 0 = 0 | step 0 2 | best 0 = 0 | step 0 3 | thing 0 0 1 | step 1 2
            step 1 3
            thing 0 0 1 | step 2 2 | step 2 3 | thing 0 0 1 | step 3 2 | step 3 3 | sort 1 0 9 0
            write 0 a1<9~0;b1<9~0;c1<9~0;d1<9~0 = 4 | best 0 = 80 | most 0 0 = 12 | best 1 = 0 | row 0 = 0
            """);
        script.test(20, "BEST of a SHOP: of its ROWS, the other one's being as it is",
            "against 5, 7 and 9", UNDERCUTTERS + """
            best 0 = 0 | most 0 0 = 10 | set 1 0 2 1 | best 0 = 1 | most 0 0 = 14 | set 1 0 2 2 | best 0 = 2
            most 0 0 = 18
            best 1 = 2 | set 0 0 2 1 | best 1 = 0 | set 0 0 2 2 | best 1 = 1
            """);
        script.test(20, "BEST of a SHOP: of its ROWS", "where it stands itself does not matter", UNDERCUTTERS + """
            set 1 0 2 1 | best 0 = 1 | set 0 0 2 1 | best 0 = 1 | set 0 0 2 2 | best 0 = 1 | row 0 = 2
            """);
        script.test(20, "that with the most LEFT, the first such.", "of like ones", LIKE_ONES + """
            best 0 = 1 | most 0 0 = 12 | set 0 0 2 2 | best 0 = 1 | best 1 = 0
            """);
        script.test(20, "that with the most LEFT", "where all are below nothing", """
            thing 9 9 5 | step 0 7 | step 0 8 | sort 2 0 99 0 | write 0 a1<20 = 1 | best 0 = 2 | most 0 0 = -2
            """);
        script.test(20, "that with the most LEFT", "by one", """
            thing 0 0 5 | step 0 6 | sort 6 0 99 0 | write 0 a1<7 = 1 | sort 1 0 99 0 | write 1 a1<6 = 1
            best 0 = 1 | most 0 0 = 36 | change 0 0 5 | best 0 = 0 | most 0 0 = 30 | change 0 0 4 | best 0 = 0
            most 0 0 = 25
            """);
    }

    private void bestByLaw() {
        script.test(20, "ROWS with a price below the SHOP's COST are not allowed", "at COST, one above", """
            thing 5 5 5 | step 0 9 | law 1 | best 0 = 0 | set 0 0 0 6 | best 0 = 1 | set 0 0 0 9 | best 0 = 1
            set 0 0 0 10 | best 0 = NO | best 1 = 0 | set 1 0 0 6 | best 1 = 1 | law 0 | best 0 = 0
            """);
        script.test(20, "ROWS with a price below the SHOP's COST are not allowed", "one THING is enough for that", """
            thing 1 1 2 | thing 5 5 4 | thing 1 1 2 | law 1 | best 0 = NO | step 1 5 | best 0 = 1
            thing 9 9 8 | best 0 = NO | step 3 9 | best 0 = 3 | set 0 0 0 3 | best 0 = NO | best 1 = 3
            """);
        script.test(20, "NO: LAW allows none.", "a HEAD of 0, and that nobody comes, do not matter", """
            thing 5 5 4 | law 1 | best 0 = NO | set 0 0 1 0 | best 0 = NO | law 0 | best 0 = 0
            """);
        script.test(20, "LAW 1 (0 at first)", "without it what is below COST is best", LURED + """
            best 0 = 1 | law 1 | best 0 = 2 | law 0 | best 0 = 1
            """);
        script.test(20, "(as it stands they may be)", "what stands stays so, and is bought", LURED + """
            law 1 | row 0 = 0 | left 0 = -150 | buys 1 0 0 = 3 | set 0 0 2 0 = 0 | row 0 = 0 | only 0 = 2
            brings 0 0 = -150
            """);
    }

    private void most() {
        script.test(21, "LEFT by BEST (what = 0)", "it is no less than as it stands", LURED + """
            left 0 = -150 | most 0 0 = 10 | most 1 0 = 0 | law 1 | most 0 0 = 0
            """);
        script.test(21, "by ONE BY ONE (1)", "it may be less than by BEST", LURED + """
            most 0 1 = 0 | most 0 0 = 10 | climb 0 = 2 | set 0 1 2 1 | most 0 1 = 10 | climb 0 = 1
            """);
        script.test(21, "NO: LAW allows no ROW (LOST less 1, 2, 5)", "of each", """
            thing 5 5 4 | law 1 | most 0 0 = -1000000000000000005 | most 0 1 = -1000000000000000005
            most 0 2 = -1000000000000000005 | set 0 0 0 4 | most 0 0 = 0 | most 0 1 = 0 | most 0 2 = 0 | most 1 1 = NO
            """);
        script.test(21, "OUTSIDE", "what is neither of the three", """
            most 0 -1 = OUTSIDE | most 0 3 = OUTSIDE | most 1 MIN = OUTSIDE | most 1 MAX = OUTSIDE | most 0 2 = 0
            """);
        script.test(21, "UNKNOWN",
            "no such SHOP", "most 2 0 = UNKNOWN | most -1 1 = UNKNOWN | most 2 3 = UNKNOWN | most 1 0 = 0");
    }

    private void bound() {
        script.test(21, "BOUND (2)", "nobody, one SORT, two that have it by different ROWS", """
            thing 0 0 6 | step 0 12 | most 0 2 = 0 | sort 1 0 99 0 | most 0 2 = 0 | write 0 a1<7 = 1 | most 0 2 = 6
            sort 1 0 99 0 | write 1 a1<13 = 1 | most 0 2 = 18 | most 0 0 = 12 | most 1 2 = 0 | change 0 0 99
            most 0 2 = 606
            """);
        script.test(21, "BOUND: the sum over SORTS of the most that one brings alone by some ROW", "five SORTS", """
            thing 0 0 6 | times 5 sort 2 0 99 0 = 4 | write 0 a1<7 = 1 | write 1 a2<7 = 1 | write 2 a3<7 = 1
            write 4 a1<7 = 1
            most 0 2 = 84
            """);
        script.test(21, "BOUND: the sum over SORTS of the most that one brings alone by some ROW",
            "those who cost by any", """
            thing 9 9 5 | step 0 7 | sort 1 0 99 0 | write 0 a1<20 = 1 | most 0 2 = -2 | sort 1 0 99 0
            write 1 a1<6 = 1
            most 0 2 = -2 | sort 1 0 99 0 | write 2 a3<20 = 1 | most 0 2 = -8
            """);
        script.test(21, "(by LAW)", "ROWS that are allowed alone", LURED + """
            most 0 2 = 100 | law 1 | most 0 2 = 0 | set 0 0 0 10 | most 0 2 = 200
            """);
        script.test(21, "by some ROW", "the other SHOP is as it is", UNDERCUTTERS + """
            most 0 2 = 14 | set 1 0 2 1 | most 0 2 = 16 | set 1 0 2 2 | most 0 2 = 18
            """);
    }

    private void climb() {
        script.test(22, "The ROW that ONE BY ONE comes to.", "there is one alone, or nobody", """
            climb 0 = 0 | thing 0 0 4 | climb 0 = 0 | step 0 5 | climb 0 = 0 | set 0 0 2 1 | climb 0 = 1 | climb 1 = 0
            """);
        script.test(22, "if that is more than it is;",
            "a like one is none, be it before it or behind", LIKE_ONES + """
            set 0 0 2 1 | climb 0 = 1 | set 0 0 2 2 | climb 0 = 2 | most 0 1 = 12 | row 0 = 2
            """);
        script.test(22, "the first such) by which LEFT is most", "of like ones", LIKE_ONES + """
            climb 0 = 1 | most 0 1 = 12
            """);
        script.test(22, "ONE BY ONE: from the ROW as it is THINGS from 0 on", "a goes down first, or up", """
            thing 5 5 4 | step 0 9 | thing 5 5 6 | step 1 10 | sort 1 0 99 0 | write 0 a1<9;b1<10 = 2
            climb 0 = 2 | most 0 1 = 5 | set 0 0 2 1 | set 0 1 2 1 | left 0 = 0 | climb 0 = 1 | most 0 1 = 4
            best 0 = 2
            """);
        script.test(22, "again and again, till none changes.", "a, b, and a again", """
            thing 0 0 3 | step 0 6 | step 0 9 | thing 0 0 4 | step 1 9 | sort 1 7 99 0 | write 0 a1<10;b1<10 = 2
            sort 5 0 99 0 | write 1 b1<5 = 1 | set 0 0 2 2 | set 0 1 2 1 | climb 0 = 2 | most 0 1 = 30
            """);
        script.test(22, "UNKNOWN",
            "no such SHOP", "climb 2 = UNKNOWN | climb -1 = UNKNOWN | climb MIN = UNKNOWN | climb MAX = UNKNOWN");
    }

    private void climbByLaw() {
        script.test(22, "each to the STEP (by LAW 1 of those alone at which it is not below COST itself",
            "at COST, one below", """
            thing 5 5 4 | step 0 5 | step 0 20 | set 0 0 2 2 | set 1 0 2 2 | thing 0 0 0 | step 1 9 | set 0 1 2 1
            sort 1 8 99 0 | write 0 a1<14;b1<10 = 2 | law 1 | climb 0 = 3 | set 0 0 0 6 | climb 0 = 5 | law 0
            climb 0 = 3
            """);
        script.test(22, "whatever the others are;", "another one is below COST, at all its STEPS", """
            thing 9 9 5 | thing 1 1 2 | step 1 3 | sort 1 0 99 0 | write 0 b1<9 = 1 | law 1 | best 0 = NO
            climb 0 = 1
            set 0 1 0 3 | set 0 1 2 0 | climb 0 = 1 | set 0 1 0 4 | climb 0 = 0
            """);
        script.test(22, "each to the STEP (by LAW 1", "what is below COST stays, if nothing else is more", """
            thing 9 9 5 | step 0 9 | law 1 | climb 0 = 0 | sort 1 0 99 0 | write 0 a1<20 = 1 | left 0 = -4
            climb 0 = 1
            most 0 1 = 0 | write 0 a1<5 = 1 | climb 0 = 0
            """);
    }

    private void lures() {
        script.test(23, "LURES: THINGS below COST in BEST.", "at COST, one below", """
            thing 5 5 5 | lures 0 = 0 | set 0 0 0 6 | lures 0 = 1 | lures 1 = 0 | set 0 0 0 4 | lures 0 = 0
            """);
        script.test(23, "LURES, as bits.", "none, the last one, all four", """
            times 4 thing 5 5 5 = 3 | lures 0 = 0 | set 0 3 0 6 | lures 0 = 8 | set 0 0 0 99 | set 0 1 0 6
            set 0 2 0 6
            lures 0 = 15 | lures 1 = 0
            """);
        script.test(23, "LURES: THINGS below COST in BEST.", "in BEST, not as it stands", LURED + """
            lures 0 = 1 | set 0 0 2 2 | lures 0 = 1 | set 0 0 0 10 | lures 0 = 0
            """);
        script.test(23, "NO, likewise.", "by LAW there is none, or no ROW", LURED + """
            law 1 | lures 0 = 0 | set 0 0 0 30 | lures 0 = 0 | set 0 0 0 31 | lures 0 = NO | lures 1 = 0
            """);
        script.test(23, "UNKNOWN;",
            "no such SHOP", "lures 2 = UNKNOWN | lures -1 = UNKNOWN | lures 0 = 0 | lures 1 = 0");
    }

    private void brings() {
        script.test(24, "BRINGS of a THING: LEFT as it is less LEFT with the THING at its last STEP.",
            "one STEP, the last", """
            thing 1 1 5 | sort 2 0 99 0 | write 0 a1<9~1 = 1 | brings 0 0 = 0 | step 0 7 | brings 0 0 = -4
            set 0 0 2 1
            brings 0 0 = 0 | step 0 8 | brings 0 0 = -2 | step 0 9 = FULL | set 0 0 2 0 | brings 0 0 = -6
            brings 1 0 = 0
            """);
        script.test(24, "BRINGS.", "it is more than nothing, if they come for it", LURED + """
            set 0 1 2 1 | left 0 = 10 | brings 0 0 = 10 | brings 0 1 = 0 | law 1 | brings 0 0 = 10 | row 0 = 1
            """);
        script.test(24, "UNKNOWN (LOST less 1)", "no such SHOP, no such THING", """
            brings 0 0 = UNKNOWN | thing 1 1 5 | brings 0 0 = 0 | brings 0 1 = -1000000000000000001
            brings 0 -1 = UNKNOWN
            brings 2 0 = UNKNOWN | brings -1 0 = UNKNOWN
            """);
    }

    private void only() {
        script.test(25, "ONLY: SORTS that BUY something in a SHOP", "who buys nothing is none of them", """
            thing 9 9 5 | sort 1 0 9 0 | only 0 = 0 | write 0 a1<4~1 = 1 | goes 0 = 1 | only 0 = 0
            write 0 a1<5~1 = 1 | only 0 = 1
            only 1 = 0 | set 0 0 1 0 | only 0 = 0
            """);
        script.test(25, "and there nothing that is not below COST.", "at COST, one below", """
            thing 6 6 5 | sort 1 0 9 0 | write 0 a1<9 = 1 | only 0 = 1 | set 0 0 0 5 | only 0 = 0
            thing 6 6 5 | write 0 a1<9;b1<9 = 2 | only 0 = 0 | set 0 0 0 6 | only 0 = 1 | set 0 1 0 5 | only 0 = 0
            """);
        script.test(25, "and there nothing", "what it buys in the other SHOP does not matter", """
            thing 6 6 5 | thing 4 4 5 | set 1 0 1 0 | set 0 1 1 0 | sort 1 0 0 1 | write 0 a1<9;b1<9 = 2 | goes 0 = 3
            only 0 = 1 | only 1 = 0 | set 1 1 0 6 | only 1 = 1
            """);
        script.test(25, "and there nothing", "a in the one and d in the other of four THINGS", """
            times 4 thing 6 4 5 = 3 | set 0 0 1 0 | set 1 3 1 0 | sort 1 0 0 1 | write 0 a1<9;d1<9 = 2 | goes 0 = 3
            only 0 = 1 | only 1 = 0 | set 1 0 0 6 | only 1 = 1 | set 0 3 0 5 | only 0 = 0
            """);
        script.test(25, "ONLY, as bits.", "the fifth, all five, none", """
            thing 6 6 5 | only 0 = 0 | times 5 sort 1 0 9 0 = 4 | only 0 = 0 | write 4 a1<9 = 1 | only 0 = 16
            write 0 a1<9 = 1 | only 0 = 17 | write 1 a1<9 = 1 | write 2 a1<9 = 1 | write 3 a1<9 = 1 | only 0 = 31
            only 1 = 0
            """);
        script.test(25, "UNKNOWN",
            "no such SHOP", "only 2 = UNKNOWN | only -1 = UNKNOWN | only MAX = UNKNOWN | only 0 = 0 | only 1 = 0");
    }

    private void rests() {
        script.test(26, "RESTS: how many (i = -1)", "none, one, all", UNDERCUTTERS + """
            rest -1 = 0 | change 0 0 99 | change 1 0 99 | rest -1 = 1 | change 0 1 99 | change 1 2 99 | change 2 1 99
            change 2 2 99 | rest -1 = 9
            """);
        script.test(26, "the i-th by ROWS of SHOP 0, then 1: 100 times the one, and the other;",
            "the first, the last, one more", """
            rest 0 = 0 | rest 1 = NONE | thing 3 3 2 | step 0 4 | rest -1 = 4 | rest 0 = 0 | rest 1 = 1 | rest 2 = 100
            rest 3 = 101 | rest 4 = NONE | step 0 6 | rest 3 = 100 | rest 8 = 202 | rest 9 = NONE
            """);
        script.test(26, "100 times the one, and the other;", "ROWS of two digits", """
            thing 0 0 1 | step 0 2 | step 0 3 | thing 0 0 1 | step 1 2 | step 1 3 | thing 0 0 1 | step 2 2
            rest -1 = 324
            rest 323 = 1717 | rest 324 = NONE | rest 18 = 100 | rest 17 = 17 | rest 190 = 1010
            """);
        script.test(26, "pairs of ROWS", "81 of each SHOP: the last ones", WHOLE + """
            rest -1 = 6561 | rest 0 = 0 | rest 81 = 100 | rest 80 = 80 | rest 6560 = 8080 | rest 6561 = NONE
            ring 0 0 = 0 | ring 0 2 = 80 | ring 1 3 = 80 | ring 1 1 = 0 | law 1 | rest -1 = 1 | rest 0 = 8080
            rest 1 = NONE
            """);
        script.test(26, "RESTS: how many (i = -1)", "the fifth SORT has its part in it", """
            thing 0 0 5 | step 0 7 | times 5 sort 1 0 99 0 = 4 | rest -1 = 4 | write 4 a1<20 = 1 | rest -1 = 2
            rest 0 = 100
            ring 0 0 = 1 | ring 0 2 = 1
            """);
        script.test(26, "RESTS: how many (i = -1)", "as it is now, not as it was when it was asked before", """
            thing 0 0 5 | step 0 7 | sort 1 14 99 0 | write 0 a1<20;b1<50 = 2 | rest -1 = 2 | rest 0 = 0 | image 0
            thing 0 0 8 | rest -1 = 2 | rest 0 = 100 | step 0 9 | rest -1 = 3 | rest 0 = 200 | set 0 1 1 0
            rest -1 = 3 | rest 0 = 0
            set 0 0 0 6 | rest -1 = 6 | rest 0 = 100 | change 0 1 0 | rest -1 = 3 | rest 0 = 200 | restore 0
            rest -1 = 2 | rest 0 = 0
            """);
        script.test(26, "NONE (i below -1, too).", "far below and above", """
            rest -2 = NONE | rest MIN = NONE | rest MAX = NONE | rest 1 = NONE | rest -1 = 1
            """);
        script.test(26, "NONE",
            "there are none at all", UNDERCUTTERS + "rest 0 = NONE | rest -2 = NONE | rest 1 = NONE");
        script.test(26, "RESTS: pairs of ROWS such that neither SHOP could have more LEFT by another ROW",
            "like ones are rests", LIKE_ONES + """
            rest -1 = 6 | rest 0 = 100 | rest 2 = 102 | rest 3 = 200 | rest 5 = 202 | rest 6 = NONE
            """);
        script.test(26, "neither SHOP could have more LEFT", "one of them alone is not enough", """
            thing 0 0 5 | step 0 7 | sort 1 99 0 0 | write 0 a1<20 = 1 | rest -1 = 2 | rest 0 = 1 | rest 1 = 101
            sort 1 0 99 0 | write 1 a1<20 = 1 | rest -1 = 1 | rest 0 = 101
            """);
        script.test(26, "pairs of ROWS", "where the SHOPS stand does not matter", LIKE_ONES + """
            rest -1 = 6 | set 0 0 2 2 | set 1 0 2 1 | rest -1 = 6 | rest 0 = 100
            """);
    }

    private void restsByLaw() {
        script.test(26, "(by LAW both)", "at COST, one above, in either SHOP", """
            thing 2 2 2 | step 0 4 | law 1 | rest -1 = 4 | set 0 0 0 3 | rest -1 = 2 | rest 0 = 100 | rest 1 = 101
            set 0 0 0 2 | set 1 0 0 3 | rest -1 = 2 | rest 0 = 1 | rest 1 = 101 | set 0 0 0 4 | rest -1 = 1
            rest 0 = 101
            """);
        script.test(26, "(by LAW both)", "what is not allowed is nothing that a SHOP could have, either", """
            thing 5 0 4 | step 0 6 | step 0 8 | thing 0 0 0 | step 1 9 | sort 1 5 99 0 | write 0 a1<9;b1<9~8 = 2
            rest -1 = 6 | rest 0 = 100 | law 1 | rest 0 = 200
            """);
        script.test(26, "NO: LAW allows none.", "of SHOP 0, of SHOP 1, of both", """
            thing 5 5 5 | law 1 | rest -1 = 1 | set 0 0 0 6 | rest -1 = NO | rest 0 = NO | rest -2 = NO
            set 0 0 0 5 | set 1 0 0 6 | rest -1 = NO | rest 5 = NO | set 0 0 0 6 | rest -1 = NO | law 0 | rest -1 = 1
            rest -2 = NONE
            """);
    }

    private void ringAtRest() {
        script.test(27, "1: 0 at a rest", "both stay at once, and are where they were", """
            ring 0 0 = 0 | ring 0 1 = 0 | thing 0 0 5 | step 0 7 | set 0 0 2 1 | ring 0 0 = 0 | ring 0 1 = 0
            ring 0 2 = 1
            ring 0 3 = 0 | ring 1 0 = 0 | ring 1 1 = 0 | ring 1 2 = 1 | ring 1 3 = 0
            """);
        script.test(27, "in turns each takes BEST (if that has more than what is;",
            "a like one is not taken", LIKE_ONES + """
            set 0 0 2 2 | set 1 0 2 1 | best 0 = 1 | best 1 = 0 | ring 0 0 = 0 | ring 0 2 = 2 | ring 0 3 = 1
            set 0 0 2 0 | ring 0 0 = 1 | ring 0 1 = 0 | ring 0 2 = 1 | ring 1 0 = 1 | ring 1 2 = 1 | ring 1 3 = 1
            """);
        script.test(27, "till both stay, one behind the other",
            "the first stays, the other moves, the first moves", """
            thing 0 0 5 | step 0 7 | sort 2 0 99 0 | sort 9 99 0 0 | sort 3 0 0 0
            write 0 a1<20 = 1 | write 1 a1<20 = 1 | write 2 a1<20 = 1 | best 0 = 0 | best 1 = 1
            ring 0 0 = 2 | ring 0 1 = 0 | ring 0 2 = 1 | ring 0 3 = 1
            """);
        script.test(27, "till both stay, one behind the other", "one of them must move", LIKE_ONES + """
            ring 0 0 = 1 | ring 0 1 = 0 | ring 0 2 = 1 | ring 0 3 = 0 | ring 1 0 = 1 | ring 1 2 = 1 | ring 1 3 = 0
            """);
    }

    private void ringRound() {
        script.test(27, "1: 0 at a rest, else",
            "at a rest, after it was asked where it goes round", UNDERCUTTERS + """
            ring 0 1 = 6 | change 0 0 99 | change 1 0 99 | ring 0 1 = 0 | ring 0 0 = 2 | change 0 0 1 | change 1 0 1
            ring 0 1 = 6
            """);
        script.test(27, "or both ROWS with the same one next come again.",
            "not if the other one is next", UNDERCUTTERS + """
            ring 0 0 = 6 | ring 0 1 = 6 | ring 0 2 = 0 | ring 0 3 = 0 | ring 1 0 = 6 | ring 1 1 = 6 | ring 1 2 = 0
            ring 1 3 = 0
            """);
        script.test(27, "how many changes of a ROW (what = 0)",
            "those before it goes round are counted, too", UNDERCUTTERS + """
            set 0 0 2 2 | ring 0 0 = 7 | ring 0 1 = 6 | ring 0 2 = 0 | ring 0 3 = 0
            """);
        script.test(27, "else how many turns go round (those that change nothing, too)",
            "from within it", UNDERCUTTERS + """
            set 0 0 2 1 | ring 0 0 = 6 | ring 0 1 = 6 | ring 0 2 = 1 | ring 0 3 = 0
            """);
        script.test(27, "2 and 3 ROWS of SHOPS 0 and 1 then.", "where it comes again", UNDERCUTTERS + """
            set 1 0 2 2 | ring 0 2 = 0 | ring 0 3 = 2 | ring 1 2 = 0 | ring 1 3 = 2 | set 1 0 2 1 | set 0 0 2 2
            ring 0 2 = 2 | ring 0 3 = 1
            """);
        script.test(27, "RING: from what is, one SHOP first", "it matters which", """
            thing 0 0 5 | step 0 7 | sort 9 0 99 0 | sort 1 99 0 0 | sort 3 0 0 0
            write 0 a1<20 = 1 | write 1 a1<20 = 1 | write 2 a1<20 = 1
            ring 0 0 = 1 | ring 0 1 = 0 | ring 0 2 = 1 | ring 0 3 = 0 | ring 1 0 = 3 | ring 1 1 = 0 | ring 1 2 = 1
            ring 1 3 = 0
            """);
        script.test(27, "RING, a SHOP first", "nothing is moved by asking", UNDERCUTTERS + """
            ring 0 2 = 0 | set 0 0 2 2 = 0 | ring 0 3 = 0 | row 0 = 2 | row 1 = 0
            """);
    }

    private void ringByLaw() {
        script.test(27, "by LAW also if what is is not allowed", "at COST and one above", """
            thing 5 5 5 | step 0 7 | law 1 | ring 0 0 = 0 | ring 0 2 = 0 | set 0 0 0 6 | ring 0 0 = 1 | ring 0 2 = 1
            ring 0 3 = 0
            """);
        script.test(27, "by LAW also if what is is not allowed", "though nothing more is left", """
            thing 5 5 4 | step 0 5 | step 0 6 | law 1 | ring 0 0 = 2 | ring 0 1 = 0 | ring 0 2 = 1 | ring 0 3 = 1
            ring 1 0 = 2
            set 0 0 2 1 | ring 0 0 = 1 | ring 0 2 = 1 | ring 0 3 = 1 | set 0 0 2 2 | ring 1 0 = 1 | ring 1 2 = 2
            law 0 | ring 0 0 = 0
            """);
        script.test(27, "by LAW also if what is is not allowed", "to less than it had below COST", """
            thing 9 9 8 | step 0 9 | thing 0 0 9 | sort 3 1 99 0 | write 0 a2<9;b1<10 = 2 | left 0 = 21 | law 1
            ring 0 0 = 2
            ring 0 2 = 1 | ring 0 3 = 1 | most 0 0 = 0 | law 0 | ring 0 0 = 0
            """);
        script.test(27, "NO: LAW allows none.", "of SHOP 0, of SHOP 1, whichever is first", """
            thing 5 5 5 | law 1 | ring 0 0 = 0 | set 0 0 0 6 | ring 0 0 = NO | ring 1 0 = NO | set 0 0 0 5
            set 1 0 0 6
            ring 0 1 = NO | ring 1 2 = NO | ring 0 3 = NO | law 0 | ring 0 0 = 0
            """);
    }

    private void refused() {
        script.test(20, "UNKNOWN",
            "no such SHOP", "best 2 = UNKNOWN | best -1 = UNKNOWN | best MIN = UNKNOWN | best 0 = 0 | best 1 = 0");
        script.test(27, "UNKNOWN", "no such SHOP", """
            ring 2 0 = UNKNOWN | ring -1 0 = UNKNOWN | ring 2 4 = UNKNOWN | ring 0 0 = 0 | ring 1 0 = 0
            """);
        script.test(27, "OUTSIDE", "what is neither of the four", """
            ring 0 -1 = OUTSIDE | ring 0 4 = OUTSIDE | ring 1 MIN = OUTSIDE | ring 1 MAX = OUTSIDE | ring 0 3 = 0
            """);
    }
}
