/** What 'Terms' says for all promises: numbers of shops, things and sorts, and refusals in their order. */
final class TermsEdges {
    private static final String SHOP_MARK = "SHOP";

    private final Script script;

    private TermsEdges(Script script) {
        this.script = script;
    }

    static void all(Script script) {
        TermsEdges terms = new TermsEdges(script);
        terms.order();
        terms.orderByLaw();
        terms.numbersOfShops();
        terms.numbersOfThings();
        terms.numbersOfSorts();
        terms.lost();
        terms.belowNothing();
        terms.fractions();
    }

    private void order() {
        String words = "Calls that are refused answer, the first of these that fits: UNKNOWN -1 "
            + "(there is no such SHOP, THING, SORT, STEP), OUTSIDE -2 (another number is not as told), "
            + "STATE -3 (as told), FULL -4, NO -5 (as told).";
        script.test(0, words, "OUTSIDE ahead of FULL", """
            times 4 thing 1 1 1 = 3
            thing 100 1 1 = OUTSIDE | thing 1 1 1 = FULL
            step 0 2 | step 0 3 = 2
            step 0 3 = OUTSIDE | step 0 4 = FULL
            times 5 sort 1 0 0 0 = 4
            sort 0 0 0 0 = OUTSIDE | sort 1 0 0 0 = FULL
            times 40 say 97 = 40
            say 32 = OUTSIDE | say 33 = FULL
            times 30 slip 1 = 30
            slip 16 = OUTSIDE | slip 15 = FULL
            """);
        script.test(0, words, "UNKNOWN ahead of OUTSIDE", """
            thing 1 1 1 | sort 1 0 0 0
            step 1 100 = UNKNOWN | step 0 100 = OUTSIDE
            set 2 0 3 0 = UNKNOWN | set 0 1 0 100 = UNKNOWN | set 0 0 3 0 = OUTSIDE | set 0 0 0 100 = OUTSIDE
            show 2 16 = UNKNOWN | show 1 16 = OUTSIDE
            change 1 5 1 = UNKNOWN | change 1 0 0 = UNKNOWN | change 0 5 1 = OUTSIDE
            item 1 0 3 = UNKNOWN | item 0 4 3 = UNKNOWN | item 0 3 3 = OUTSIDE
            thinks 1 3 = UNKNOWN | thinks 0 3 = OUTSIDE
            most 2 3 = UNKNOWN | most 1 3 = OUTSIDE
            ring 2 4 = UNKNOWN | ring 1 4 = OUTSIDE
            shown 2 5 = UNKNOWN | shown 1 5 = OUTSIDE
            """);
        script.test(0, words, "UNKNOWN ahead of FULL", """
            thing 1 1 1 | step 0 2 | step 0 3
            step 1 4 = UNKNOWN | step -1 4 = UNKNOWN | step 0 4 = FULL
            """);
        script.test(0, words, "UNKNOWN ahead of NO: a list with a fault", """
            list 0 = UNKNOWN | sort 1 0 0 0 | list 1 = UNKNOWN | list 0 = NO
            """);
        script.test(0, words, "UNKNOWN ahead of OUTSIDE ahead of STATE", """
            chance 0 4 2 = UNKNOWN | chance 1 1 2 = UNKNOWN | chance 0 1 2 = OUTSIDE | chance 0 1 1 = STATE
            restore 2 = OUTSIDE | restore -1 = OUTSIDE | restore 1 = STATE
            """);
        script.test(0, words, "home: each UNKNOWN ahead of each OUTSIDE", """
            thing 1 1 1 | thing 1 1 1 | sort 1 0 0 0 | write 0 a1<5 = 1
            home 1 0 0 4096 1 0 = UNKNOWN | home 0 2 0 0 13 0 = UNKNOWN | home 0 0 2 0 1 3 = UNKNOWN
            home 0 0 1 4096 0 3 = UNKNOWN | home 0 0 0 4096 1 0 = OUTSIDE
            """);
    }

    private void orderByLaw() {
        script.test(0, "NO -5 (as told)", "UNKNOWN and OUTSIDE ahead of NO: law", """
            thing 9 9 8 | law 1
            best 2 = UNKNOWN | best 0 = NO
            most 2 0 = UNKNOWN | most 0 3 = OUTSIDE | most 0 2 = NO
            lures -1 = UNKNOWN | lures 1 = NO
            ring 2 4 = UNKNOWN | ring 0 -1 = OUTSIDE | ring 0 0 = NO
            edge 2 0 = UNKNOWN | edge 0 1 = UNKNOWN | edge 0 0 = NO
            rest -1 = NO | rest -2 = NO | rest MAX = NO | hurt = NO
            """);
        script.test(0, "They change nothing.", "in a town with something of all", """
            thing 5 6 7 | step 0 9 | thing 3 3 4 | set 0 0 2 1 | set 1 1 1 2 | show 0 3 | show 1 8
            sort 3 1 2 1 | change 0 4 5 | write 0 b2<12~8 = 1 | sort 2 2 2 2 | slip 3 | slip 8 | image 0
            law 1 | says a1<
            thing 5 6 100 = OUTSIDE | step 1 4 = OUTSIDE | step 2 50 = UNKNOWN
            set 0 0 0 100 = OUTSIDE | set 0 0 1 4 = OUTSIDE | set 0 0 2 2 = UNKNOWN | set 0 0 3 1 = OUTSIDE
            show 0 16 = OUTSIDE | show 2 1 = UNKNOWN | sort 1 1 1 3 = OUTSIDE
            change 0 0 0 = OUTSIDE | change 0 1 100 = OUTSIDE | change 0 2 100 = OUTSIDE | change 0 3 3 = OUTSIDE
            change 0 4 7 = OUTSIDE | change 2 0 1 = UNKNOWN
            say 127 = OUTSIDE | list 0 = NO | list 2 = UNKNOWN | law 2 = OUTSIDE
            slip 16 = OUTSIDE | image 2 = OUTSIDE | restore 1 = STATE | restore 2 = OUTSIDE
            """);
    }

    /** Each call that names a SHOP, with SHOP where it stands. */
    private void numbersOfShops() {
        String[] calls = {"set SHOP 0 0 7", "set SHOP 0 1 1", "set SHOP 0 2 0", "show SHOP 1", "buys 0 SHOP 0", "left SHOP",
            "row SHOP", "best SHOP", "most SHOP 0", "most SHOP 1", "most SHOP 2", "climb SHOP", "lures SHOP",
            "brings SHOP 0", "only SHOP", "ring SHOP 0", "heads SHOP 0", "shown SHOP 1", "home 0 SHOP 0 0 1 0",
            "edge SHOP 0"};
        for (String call : calls) {
            String town = "thing 5 5 6 | sort 1 0 0 0 | write 0 a1<9 = 1\n";
            StringBuilder text = new StringBuilder(town);
            for (String shop : new String[] {"-1", "2", "MIN", "MAX"}) {
                text.append(call.replace(SHOP_MARK, shop)).append(" = UNKNOWN\n");
            }
            text.append(call.replace(SHOP_MARK, "0")).append('\n').append(call.replace(SHOP_MARK, "1"));
            script.test(0, "SHOPS 0, 1.", call, text.toString());
        }
    }

    private void numbersOfThings() {
        String[] calls = {"step THING 99", "set 0 THING 0 7", "set 1 THING 2 0", "buys 0 0 THING", "brings 0 THING",
            "heads 1 THING", "edge 0 THING", "home 0 0 THING 0 1 0"};
        for (String call : calls) {
            StringBuilder text = new StringBuilder("sort 1 0 0 0 | write 0 a1<9;b1<9;c1<9;d1<9 = 4\n");
            for (int thing = 0; thing < 4; thing++) {
                text.append(call.replace("THING", "-1")).append(" = UNKNOWN\n");
                text.append(call.replace("THING", "" + thing)).append(" = UNKNOWN\n");
                text.append("thing 5 5 6 = ").append(thing).append('\n');
                text.append(call.replace("THING", "" + thing)).append('\n');
            }
            for (String thing : new String[] {"4", "MIN", "MAX"}) {
                text.append(call.replace("THING", thing)).append(" = UNKNOWN\n");
            }
            script.test(0, "THINGS, 4 at most, numbered from 0 on (a to d)", call, text.toString());
        }
        script.test(0, "THINGS, 4 at most, numbered from 0 on (a to d)", "a is 0, d is 3", """
            times 4 thing 5 5 6 = 3 | set 0 3 0 1 | set 1 3 0 1
            sort 1 0 0 0 | write 0 a1<6;d2<7 = 2 | buys 0 0 0 = 1 | buys 0 0 1 = 0 | buys 0 0 2 = 0 | buys 0 0 3 = 2
            """);
    }

    private void numbersOfSorts() {
        String[] calls = {"change SORT 0 7", "list SORT", "item SORT 0 0", "thinks SORT 0", "goes SORT",
            "buys SORT 0 0", "saves SORT", "home SORT 0 0 0 1 0"};
        for (String call : calls) {
            StringBuilder text = new StringBuilder("thing 5 5 6\n");
            for (int sort = 0; sort < 5; sort++) {
                text.append(call.replace("SORT", "-1")).append(" = UNKNOWN\n");
                text.append(call.replace("SORT", "" + sort)).append(" = UNKNOWN\n");
                text.append("sort 1 0 0 0 = ").append(sort).append(" | write ").append(sort).append(" a1<9 = 1\n");
                text.append("says a1<9\n").append(call.replace("SORT", "" + sort)).append("\nwipe\n");
            }
            for (String sort : new String[] {"5", "MIN", "MAX"}) {
                text.append(call.replace("SORT", sort)).append(" = UNKNOWN\n");
            }
            script.test(0, "SORTS, 5 at most, numbered from 0 on", call, text.toString());
        }
    }

    private void lost() {
        script.test(0, "Numbers that may be below 0 are refused with LOST and the refusal.", "each such call", """
            thing 9 9 8 | sort 1 0 0 0 | law 1
            thinks 1 0 = -1000000000000000001 | thinks 0 3 = -1000000000000000002
            saves 1 = -1000000000000000001 | left 2 = -1000000000000000001 | brings 2 0 = -1000000000000000001
            most 2 0 = -1000000000000000001 | most 0 3 = -1000000000000000002 | most 0 0 = -1000000000000000005
            home 0 0 0 0 1 0 = -1000000000000000001 | write 0 a1<9 = 1 | home 0 0 0 0 13 0 = -1000000000000000002
            """);
        script.test(0, "`LOST = -1000000000000000000L`: What is told of numbers that may be below 0, of fractions: "
            + "LOST and the refusal.", "fractions", """
            chance 0 0 0 = -1000000000000000001 | chance 0 1 2 = -1000000000000000002
            chance 0 1 0 = -1000000000000000003
            """);
        script.test(0, "The constants: `UNKNOWN = -1, OUTSIDE = -2, STATE = -3, FULL = -4, NO = -5, NONE = -6`: "
            + "What refused calls answer; NONE: there is none.", "each one", """
            thing 9 9 8 | law 1 | row 2 = -1 | told 6 = -2 | restore 0 = -3 | best 0 = -5 | told 11 = -6
            times 3 thing 1 1 1 = 3 | thing 1 1 1 = -4
            """);
    }

    /** Answers of -1 to -5 are numbers, where refusals come with LOST. */
    private void belowNothing() {
        script.test(0, "Numbers that may be below 0", "thinks, saves", """
            thing 0 0 6 | sort 1 1 2 0 | thinks 0 0 = -1 | thinks 0 1 = -2 | thinks 0 2 = -3
            write 0 a1<5~3 = 1 | thinks 0 0 = 1 | saves 0 = -1
            """);
        script.test(0, "Numbers that may be below 0", "left, most, brings, home", """
            thing 6 6 5 | sort 1 0 9 0 | write 0 a1<9 = 1 | left 0 = -1 | most 0 0 = -1 | most 0 1 = -1
            most 0 2 = -1
            home 0 0 0 0 1 1 = -1 | home 0 0 0 0 5 1 = -5 | step 0 10 | brings 0 0 = -1 | most 0 0 = 0
            """);
    }

    private void fractions() {
        script.test(0, "Fractions are told by part: 0 the upper, 1 the lower number, in lowest terms.",
            "2 of 6, 4 of 6", """
            slip 3 | slip 2 | slip 0 | chance 0 1 0 = 2 | chance 0 1 1 = 3 | chance 1 0 0 = 2 | chance 1 0 1 = 3
            slip 0 | slip 0 | slip 0 | chance 0 1 0 = 1 | chance 0 1 1 = 3
            """);
        script.test(0, "Fractions are told by part", "a whole one", """
            slip 1 | chance 0 1 0 = 1 | chance 0 1 1 = 1 | chance 1 0 0 = 1 | chance 1 0 1 = 1
            """);
    }
}
