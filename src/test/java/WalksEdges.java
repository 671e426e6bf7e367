/** Promises 14 to 19 at their edges: what people think, where they go, what they buy and save. */
final class WalksEdges {
    private final Script script;

    private WalksEdges(Script script) {
        this.script = script;
    }

    static void all(Script script) {
        WalksEdges walks = new WalksEdges(script);
        walks.takenFor();
        walks.worth();
        walks.belowCost();
        walks.head();
        walks.thinksOfOne();
        walks.thinksOfBoth();
        walks.thinksRefused();
        walks.goesByTies();
        walks.goesToBoth();
        walks.buys();
        walks.buysInBoth();
        walks.saves();
        walks.left();
        walks.row();
    }

    private void takenFor() {
        script.test(14, "A SORT takes a price in a SHOP for the real one, if it KNOWS it,",
            "in each SHOP its own", """
            thing 10 12 8 | step 0 15 | set 1 0 2 1 | sort 3 2 4 0 | write 0 a2<20 = 1 | thinks 0 0 = 22
            thinks 0 1 = 6
            show 0 1 | show 1 15 | thinks 0 0 = 22 | thinks 0 1 = 6 | show 0 0 | thinks 0 0 = 22
            """);
        script.test(14, "or it is in the WINDOW there;", "there, not in the other SHOP, and not another THING", """
            thing 10 12 8 | step 0 15 | set 1 0 2 1 | sort 3 2 4 0 | write 0 a2<20~12 = 1
            show 0 1 | thinks 0 0 = 22 | thinks 0 1 = 12 | show 0 14 = 1 | thinks 0 0 = 14 | thinks 0 1 = 12
            show 1 1 | thinks 0 0 = 14 | thinks 0 1 = 6 | show 1 14 | thinks 0 1 = 12
            """);
        script.test(14, "or it is in the WINDOW there;", "the last THING", """
            times 4 thing 1 1 8 = 3 | sort 1 0 0 0 | write 0 d2<20~12 = 1 | thinks 0 0 = 16 | show 0 8
            thinks 0 0 = 24
            show 0 7 | thinks 0 0 = 16 | show 0 15 | thinks 0 0 = 24
            """);
        script.test(14, "else for its GUESS.", "whatever the price is", """
            thing 10 12 8 | step 0 15 | sort 3 2 4 0 | write 0 a2<20~12 = 1 | thinks 0 0 = 14 | set 0 0 2 1
            thinks 0 0 = 14
            write 0 a2<20~0 = 1 | thinks 0 0 = 38 | write 0 a2<20~99 = 1 | thinks 0 0 = -2
            """);
    }

    private void worth() {
        script.test(16, "An ITEM is WANTED in a SHOP at some price, if WORTH is no less than that",
            "the price, one less", """
            thing 0 0 7 | thing 0 0 0 | sort 1 0 9 0 | write 0 a2<7;b1<5 = 2 | thinks 0 0 = 5 | buys 0 0 0 = 2
            write 0 a2<6;b1<5 = 2 | thinks 0 0 = 5 | buys 0 0 0 = 0 | write 0 a2<8;b1<5 = 2 | thinks 0 0 = 7
            buys 0 0 0 = 2
            """);
        script.test(16, "if WORTH is no less than that", "nothing, and the most", """
            thing 0 0 0 | thing 0 0 99 | thing 0 0 0 | sort 1 0 9 0 | write 0 a1<0;b1<99;c1<1 = 3
            thinks 0 0 = 1 | buys 0 0 0 = 1 | buys 0 0 1 = 1 | write 0 a1<0;b1<98;c1<1 = 3 | buys 0 0 1 = 0
            """);
        script.test(14, "its GAIN is so many times what WORTH is above that price, else 0.",
            "a GUESS at WORTH, around it", """
            thing 0 0 7 | sort 1 0 9 0 | write 0 a3<7~7 = 1 | thinks 0 0 = 0 | write 0 a3<7~8 = 1 | thinks 0 0 = 0
            write 0 a3<7~6 = 1 | thinks 0 0 = 3 | write 0 a3<7~99 = 1 | thinks 0 0 = 0 | write 0 a3<99~0 = 1
            thinks 0 0 = 297
            """);
        script.test(14, "else 0.", "what is too dear takes nothing from the others", """
            thing 0 0 50 | thing 0 0 1 | sort 1 0 9 0 | write 0 a3<2;b1<4 = 2 | thinks 0 0 = 3
            """);
    }

    private void belowCost() {
        script.test(14, "(and, WAY 2, that is below the SHOP's COST)", "at COST, one below", """
            thing 8 7 7 | sort 1 0 0 2 | write 0 a2<9 = 1 | thinks 0 0 = 4 | thinks 0 1 = 0 | goes 0 = 1
            buys 0 0 0 = 2
            set 0 0 0 7 = 8 | thinks 0 0 = 0 | goes 0 = 0 | set 1 0 0 8 | thinks 0 1 = 4 | goes 0 = 2 | buys 0 1 0 = 2
            set 0 0 0 99 | set 1 0 0 0 | thinks 0 0 = 4 | thinks 0 1 = 0
            """);
        script.test(14, "(and, WAY 2, that is below the SHOP's COST)", "WAYS 0 and 1 do not ask for that", """
            thing 0 0 7 | sort 1 0 0 0 | write 0 a2<9 = 1 | thinks 0 0 = 4 | buys 0 0 0 = 2 | change 0 3 1
            thinks 0 0 = 4 | buys 0 0 0 = 2 | change 0 3 2 | thinks 0 0 = 0 | buys 0 0 0 = 0
            """);
        script.test(14, "(and, WAY 2, that is below the SHOP's COST)", "a price of 0 at a COST of 0 and of 1", """
            thing 0 1 0 | sort 1 0 0 2 | write 0 a1<9 = 1 | thinks 0 0 = 0 | thinks 0 1 = 9
            """);
        script.test(16, "2 to one, for THINGS below that SHOP's COST alone.", "the one of two", """
            thing 8 8 7 | thing 7 7 7 | sort 1 0 9 2 | write 0 a1<9;b1<9 = 2 | thinks 0 0 = 2 | buys 0 0 0 = 1
            buys 0 0 1 = 0
            saves 0 = 2 | left 0 = -1
            """);
        script.test(16, "for THINGS below that SHOP's COST alone.",
            "it is thought by the GUESS, bought by the price", """
            thing 10 10 8 | step 0 10 | sort 1 0 9 2 | write 0 a1<20~9 = 1 | thinks 0 0 = 11 | buys 0 0 0 = 1
            set 0 0 2 1 | thinks 0 0 = 11 | goes 0 = 1 | buys 0 0 0 = 0 | saves 0 = 0
            write 0 a1<20~10 = 1 | thinks 0 0 = 0 | goes 0 = 0 | set 0 0 2 0 | thinks 0 0 = 0 | buys 0 0 0 = 0
            """);
    }

    private void head() {
        for (int list = 1; list <= 3; list++) {
            for (int head = 0; head <= 3; head++) {
                int least = Math.min(list, head);
                script.test(16, "as many as are on the LIST, no more than HEAD", list + " and " + head, """
                    thing 0 0 1 | thing 0 0 0 | sort 1 0 9 0 | write 0 aLIST<6;b1<3 = 2 | set 0 0 1 HEAD | set 1 0 1 0
                    thinks 0 0 = THINKS | buys 0 0 0 = LEAST | buys 0 0 1 = 1 | left 0 = LEAST | saves 0 = THINKS
                    """.replace("THINKS", "" + (5 * least + 3)).replace("LIST", "" + list)
                    .replace("HEAD", "" + head).replace("LEAST", "" + least));
            }
        }
        script.test(16, "HEAD: of a THING nobody gets more than so many in a SHOP", "in that SHOP alone", """
            thing 0 0 1 | sort 1 0 0 0 | write 0 a3<6 = 1 | set 0 0 1 2 | thinks 0 0 = 10 | thinks 0 1 = 15
            goes 0 = 2
            buys 0 1 0 = 3
            """);
    }

    private void thinksOfOne() {
        script.test(14, "THINKS of a SHOP: GAINS at what it takes prices for, less FAR.",
            "nothing, and 0 to 99 away", """
            thing 0 0 1 | sort 1 0 99 0 | thinks 0 0 = 0 | thinks 0 1 = -99 | thinks 0 2 = -99
            change 0 1 99 | thinks 0 0 = -99 | thinks 0 2 = -198
            """);
        script.test(14, "THINKS of SHOP 0 (what = 0), 1 (1)", "the most that can be thought", """
            times 4 thing 0 0 0 = 3 | sort 1 0 1 0 | write 0 a3<99;b3<99;c3<99;d3<99 = 4 | thinks 0 0 = 1188
            thinks 0 1 = 1187 | thinks 0 2 = 1187
            """);
        script.test(14, "THINKS of SHOP 0 (what = 0), 1 (1)", "how many there are of the SORT does not matter", """
            thing 0 0 1 | sort 99 2 3 0 | write 0 a1<7 = 1 | thinks 0 0 = 4 | thinks 0 1 = 3 | change 0 0 1
            thinks 0 0 = 4
            """);
    }

    private void thinksOfBoth() {
        script.test(14, "BOTH (WAY 1): each ITEM in the SHOP where that GAIN is greater", "one in each", """
            thing 0 0 3 | step 0 5 | thing 0 0 3 | step 1 5 | set 0 0 2 1 | set 1 1 2 1 | sort 1 0 0 1
            write 0 a1<9;b1<9 = 2 | thinks 0 0 = 10 | thinks 0 1 = 10 | thinks 0 2 = 12 | buys 0 1 0 = 1
            buys 0 0 1 = 1
            """);
        script.test(14, "together, less FAR of both.", "both ways", """
            thing 0 0 3 | sort 1 2 5 1 | write 0 a1<9 = 1 | thinks 0 2 = -1 | change 0 1 0 | thinks 0 2 = 1
            change 0 2 0 | thinks 0 2 = 6
            """);
        script.test(14, "BOTH (2; as if by WAY 1).", "of WAY 0, of WAY 2, which asks for what is below COST else", """
            thing 5 5 3 | thing 2 2 3 | sort 1 0 0 0 | write 0 a1<9;b1<9 = 2 | thinks 0 2 = 12 | change 0 3 1
            thinks 0 2 = 12
            change 0 3 2 | thinks 0 0 = 6 | thinks 0 1 = 6 | thinks 0 2 = 12
            """);
    }

    private void thinksRefused() {
        script.test(14, "UNKNOWN", "no such SORT", """
            thinks 0 0 = UNKNOWN | sort 1 0 0 0 | thinks 1 0 = UNKNOWN | thinks -1 0 = UNKNOWN | thinks 0 0 = 0
            """);
        script.test(14, "OUTSIDE (LOST less 1, 2)", "what is neither of the three", """
            sort 1 0 0 0 | thinks 0 -1 = -1000000000000000002 | thinks 0 3 = -1000000000000000002
            thinks 0 MIN = OUTSIDE | thinks 0 MAX = OUTSIDE | thinks 1 3 = -1000000000000000001 | thinks 0 2 = 0
            """);
        script.test(15, "UNKNOWN", "no such SORT", """
            goes 0 = UNKNOWN | sort 1 0 0 0 | goes 0 = 0 | goes 1 = UNKNOWN | goes -1 = UNKNOWN | goes MIN = UNKNOWN
            goes MAX = UNKNOWN
            """);
        script.test(16, "UNKNOWN", "no such SORT, SHOP, THING", """
            thing 1 1 1 | sort 1 0 0 0 | buys 1 0 0 = UNKNOWN | buys -1 0 0 = UNKNOWN | buys 0 2 0 = UNKNOWN
            buys 0 -1 0 = UNKNOWN | buys 0 0 1 = UNKNOWN | buys 0 0 -1 = UNKNOWN | buys 0 0 0 = 0 | write 0 b1<9 = 1
            buys 0 0 1 = UNKNOWN | thing 1 1 1 | buys 0 0 1 = 1
            """);
        script.test(17, "UNKNOWN (LOST less 1)", "no such SORT", """
            saves 0 = -1000000000000000001 | sort 1 0 0 0 | saves 1 = -1000000000000000001 | saves -1 = UNKNOWN
            saves 0 = 0
            """);
        script.test(18, "UNKNOWN (LOST less 1)", "no such SHOP", """
            left 2 = -1000000000000000001 | left -1 = -1000000000000000001 | left MIN = UNKNOWN | left MAX = UNKNOWN
            left 0 = 0 | left 1 = 0
            """);
        script.test(19, "UNKNOWN", "no such SHOP", """
            row 2 = UNKNOWN | row -1 = UNKNOWN | row MIN = UNKNOWN | row MAX = UNKNOWN | row 0 = 0 | row 1 = 0
            """);
    }

    private void goesByTies() {
        script.test(15, "It GOES where that is greatest: nowhere (0)", "what is not above nothing", """
            thing 0 0 3 | sort 1 6 6 0 | goes 0 = 0 | write 0 a1<8 = 1 | thinks 0 0 = -1 | goes 0 = 0
            write 0 a1<9 = 1 | thinks 0 0 = 0 | goes 0 = 0
            """);
        script.test(15, "to SHOP 0 (1)", "by the least", """
            thing 0 0 3 | sort 1 6 6 0 | write 0 a1<9 = 1 | goes 0 = 0 | change 0 1 5 | thinks 0 0 = 1 | goes 0 = 1
            """);
        script.test(15, "1 (2)", "by the least", """
            thing 0 0 3 | sort 1 6 6 0 | write 0 a1<9 = 1 | goes 0 = 0 | change 0 2 5 | thinks 0 1 = 1 | goes 0 = 2
            change 0 1 5 | goes 0 = 1 | change 0 1 4 | goes 0 = 1 | change 0 2 3 | goes 0 = 2
            """);
        script.test(15, "of like ones to the first of these in this order.", "SHOP 0 and 1", """
            thing 0 0 3 | sort 1 2 2 0 | write 0 a1<9 = 1 | goes 0 = 1 | change 0 3 1 | goes 0 = 1 | change 0 1 3
            goes 0 = 2
            """);
        script.test(15, "of like ones to the first of these in this order.", "nowhere and both", """
            thing 0 0 3 | thing 0 0 3 | set 1 0 1 0 | set 0 1 1 0 | sort 1 5 5 1 | write 0 a1<8;b1<8 = 2
            thinks 0 0 = 0 | thinks 0 1 = 0 | thinks 0 2 = 0 | goes 0 = 0
            """);
        script.test(15, "of like ones to the first of these in this order.", "SHOP 1 and both, SHOP 0 and both", """
            thing 0 0 3 | thing 0 0 3 | set 1 0 1 0 | set 0 1 1 0 | sort 1 5 4 1 | write 0 a1<8;b1<8 = 2
            thinks 0 0 = 0 | thinks 0 1 = 1 | thinks 0 2 = 1 | goes 0 = 2 | change 0 1 4 | change 0 2 5
            thinks 0 0 = 1 | thinks 0 1 = 0 | thinks 0 2 = 1 | goes 0 = 1
            """);
        script.test(15, "both (3)", "by the least", """
            thing 0 0 3 | thing 0 0 3 | set 1 0 1 0 | set 0 1 1 0 | sort 1 4 4 1 | write 0 a1<8;b1<8 = 2
            thinks 0 0 = 1 | thinks 0 1 = 1 | thinks 0 2 = 2 | goes 0 = 3
            """);
        script.test(15, "both (3)", "not where one of the two is just worth its way", """
            thing 0 0 3 | thing 0 0 3 | set 1 0 1 0 | set 0 1 1 0 | sort 1 9 0 1 | write 0 a3<6;b1<3 = 2
            thinks 0 0 = 0 | thinks 0 1 = 0 | thinks 0 2 = 0 | goes 0 = 0 | write 0 a3<6;b3<4 = 2
            thinks 0 1 = 3 | thinks 0 2 = 3 | goes 0 = 2
            """);
    }

    private void goesToBoth() {
        script.test(15, "Where a SORT GOES.", "by its WAY", """
            thing 0 0 3 | thing 0 0 3 | set 1 0 1 0 | set 0 1 1 0 | sort 1 0 0 0 | write 0 a1<8;b1<7 = 2
            goes 0 = 1 | change 0 3 1 | goes 0 = 3 | change 0 3 2 | goes 0 = 0
            set 0 0 0 4 | goes 0 = 1 | set 1 1 0 4 | goes 0 = 1 | set 0 0 0 3 | goes 0 = 2
            """);
        script.test(15, "It GOES where that is greatest", "by what it thinks, not by what is", """
            thing 0 0 3 | step 0 50 | set 0 0 2 1 | sort 1 0 1 0 | write 0 a1<9~5 = 1 | goes 0 = 1 | buys 0 0 0 = 0
            show 1 1 | goes 0 = 2 | buys 0 1 0 = 1
            """);
    }

    private void buys() {
        script.test(16, "It BUYS, where it is", "not elsewhere", """
            thing 0 0 3 | sort 1 0 1 0 | write 0 a1<9 = 1 | goes 0 = 1 | buys 0 0 0 = 1 | buys 0 1 0 = 0
            """);
        script.test(16, "How many of a THING one of a SORT BUYS in a SHOP.", "nowhere, there, and not elsewhere", """
            thing 0 0 3 | thing 0 0 3 | sort 99 50 50 0 | write 0 a3<9 = 1 | buys 0 0 0 = 0 | buys 0 1 0 = 0
            change 0 1 0 | buys 0 0 0 = 3 | buys 0 1 0 = 0 | buys 0 0 1 = 0 | change 0 1 50 | change 0 2 17
            buys 0 0 0 = 0 | buys 0 1 0 = 3
            """);
        script.test(16, "what is WANTED at real prices.", "WORTH and one more", """
            thing 0 0 8 | step 0 9 | sort 1 0 9 0 | write 0 a2<8~1 = 1 | buys 0 0 0 = 2 | set 0 0 2 1 | goes 0 = 1
            buys 0 0 0 = 0
            """);
        script.test(16, "what is WANTED at real prices.", "what it thought too dear, and is not", """
            thing 0 0 8 | thing 0 0 1 | sort 1 0 9 0 | write 0 a2<8~99;b1<3 = 2 | thinks 0 0 = 2 | buys 0 0 0 = 2
            """);
    }

    private void buysInBoth() {
        script.test(16, "(of both: each ITEM in its SHOP)", "as it was thought, be it too dear there", """
            thing 0 0 14 | step 0 20 | thing 0 0 3 | set 0 0 2 1 | show 1 1 | set 0 1 1 0 | sort 1 0 0 1
            write 0 a1<15~10;b1<9 = 2 | thinks 0 0 = 5 | thinks 0 1 = 7 | thinks 0 2 = 11 | goes 0 = 3
            buys 0 0 0 = 0 | buys 0 1 0 = 0 | buys 0 1 1 = 1 | saves 0 = 6
            """);
        script.test(16, "(of like ones 0)", "of like GAINS in SHOP 0, of one more in SHOP 1", """
            thing 0 0 3 | thing 0 0 3 | thing 0 0 4 | step 2 5 | set 1 0 1 0 | set 0 1 1 0 | sort 1 0 0 1
            write 0 a1<9;b1<9;c1<9 = 3 | goes 0 = 3 | buys 0 0 2 = 1 | buys 0 1 2 = 0
            set 0 2 2 1 | goes 0 = 3 | buys 0 0 2 = 0 | buys 0 1 2 = 1
            """);
        script.test(16, "(of like ones 0)", "of no GAIN in either: in SHOP 0, if it is worth its price there", """
            thing 0 0 3 | thing 0 0 3 | thing 0 0 9 | set 1 0 1 0 | set 0 1 1 0 | sort 1 0 0 1
            write 0 a1<9;b1<9;c1<9 = 3 | goes 0 = 3 | buys 0 0 2 = 1 | buys 0 1 2 = 0 | set 0 2 1 0 | buys 0 0 2 = 0
            buys 0 1 2 = 0
            """);
    }

    private void saves() {
        script.test(17, "SAVES of a SORT: GAINS of what it BUYS at real prices", "at the price, not at the GUESS", """
            thing 0 0 3 | sort 99 2 50 0 | write 0 a2<9~7 = 1 | thinks 0 0 = 2 | saves 0 = 10
            write 0 a2<9~1 = 1 | saves 0 = 10 | write 0 a2<3~1 = 1 | thinks 0 0 = 2 | saves 0 = -2
            """);
        script.test(17, "less FAR of where it GOES (one of it).", "nowhere, one, both", """
            thing 0 0 3 | thing 0 0 3 | set 1 0 1 0 | set 0 1 1 0 | sort 9 90 90 1 | write 0 a1<9;b1<9 = 2
            saves 0 = 0
            change 0 1 5 | goes 0 = 1 | saves 0 = 1 | change 0 2 5 | goes 0 = 3 | saves 0 = 2 | change 0 1 90
            goes 0 = 2 | saves 0 = 1
            """);
        script.test(17, "SAVES.", "the least and the most", """
            thing 0 0 99 | thing 0 0 99 | set 1 0 1 0 | set 0 1 1 0 | sort 1 99 99 1 | write 0 a3<98~0;b3<98~0 = 2
            goes 0 = 3 | saves 0 = -198 | thing 0 0 0 | thing 0 0 0 | change 0 1 0 | change 0 2 99
            write 0 a3<99~99;c3<99;d3<99 = 3 | goes 0 = 1 | saves 0 = 594
            """);
    }

    private void left() {
        script.test(18, "LEFT of a SHOP: what all of all SORTS buy there", "all of each SORT, of that SHOP", """
            thing 1 2 5 | sort 3 0 9 0 | sort 4 0 9 0 | sort 5 9 0 0 | write 0 a1<9 = 1 | write 1 a2<9 = 1
            write 2 a3<9 = 1
            left 0 = 44 | left 1 = 45 | change 0 0 1 | left 0 = 36
            """);
        script.test(18, "price less COST each.", "above, at and below COST", """
            thing 4 5 5 | sort 3 0 9 0 | write 0 a1<9 = 1 | left 0 = 3 | set 0 0 0 5 | left 0 = 0 | set 0 0 0 6
            left 0 = -3
            change 0 1 9 | change 0 2 0 | left 0 = 0 | left 1 = 0 | set 1 0 0 0 | left 1 = 15
            """);
        script.test(18, "LEFT of a SHOP", "the most: all that can be bought, dear", """
            times 4 thing 0 0 99 = 3 | times 5 sort 99 0 0 0 = 4 | write 0 a3<99~0;b3<99~0;c3<99~0;d3<99~0 = 4
            write 1 a3<99~0;b3<99~0;c3<99~0;d3<99~0 = 4 | write 2 a3<99~0;b3<99~0;c3<99~0;d3<99~0 = 4
            write 3 a3<99~0;b3<99~0;c3<99~0;d3<99~0 = 4 | write 4 a3<99~0;b3<99~0;c3<99~0;d3<99~0 = 4
            left 0 = 588060 | left 1 = 0 | most 0 0 = 588060 | most 0 1 = 588060 | most 0 2 = 588060 | brings 0 0 = 0
            """);
        script.test(18, "LEFT of a SHOP", "the least: all that can be bought, for nothing", """
            times 4 thing 99 99 0 = 3 | times 5 sort 99 0 0 0 = 4 | write 0 a3<99;b3<99;c3<99;d3<99 = 4
            write 1 a3<99;b3<99;c3<99;d3<99 = 4 | write 2 a3<99;b3<99;c3<99;d3<99 = 4
            write 3 a3<99;b3<99;c3<99;d3<99 = 4 | write 4 a3<99;b3<99;c3<99;d3<99 = 4
            left 0 = -588060 | most 0 0 = -588060 | most 0 1 = -588060 | most 0 2 = -588060
            """);
        script.test(18, "LEFT of a SHOP", "nobody, and those who buy nothing", """
            thing 1 2 5 | left 0 = 0 | sort 9 0 0 0 | left 0 = 0 | write 0 a1<4~1 = 1 | goes 0 = 1 | left 0 = 0
            """);
    }

    private void row() {
        script.test(19, "The ROW of a SHOP.", "the first and the last of 81", """
            row 0 = 0 | thing 0 0 1 | row 0 = 0 | step 0 2 | step 0 3 | thing 0 0 1 | step 1 2 | step 1 3
            thing 0 0 1
            step 2 2 | step 2 3 | thing 0 0 1 | step 3 2 | step 3 3 | row 1 = 0 | set 1 0 2 2 | row 1 = 54
            set 1 1 2 2
            row 1 = 72 | set 1 2 2 2 | row 1 = 78 | set 1 3 2 2 | row 1 = 80 | row 0 = 0 | told 5 = 81
            """);
        script.test(19, "its ROW is that as a number: THING 0's STEP counts most", "two THINGS", """
            thing 0 0 1 | step 0 2 | thing 0 0 1 | step 1 2 | set 0 0 2 1 | row 0 = 2 | set 0 0 2 0 | set 0 1 2 1
            row 0 = 1
            """);
        script.test(19, "each by how many STEPS the THINGS behind have.",
            "of one, two, three STEPS, and one more", """
            thing 0 0 1 | step 0 2 | set 0 0 2 1 | row 0 = 1 | thing 0 0 1 | row 0 = 1 | step 1 2 | row 0 = 2
            step 1 3
            row 0 = 3 | thing 0 0 1 | step 2 9 | row 0 = 6 | set 0 2 2 1 | row 0 = 7 | set 0 1 2 2 | row 0 = 11
            """);
        script.test(19, "Each SHOP has each THING at a STEP", "a STEP more does not move it", """
            thing 0 0 1 | step 0 2 | set 1 0 2 1 | step 0 3 | row 1 = 1 | row 0 = 0
            """);
    }
}
