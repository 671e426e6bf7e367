/** Promises 32 to 39 at their edges: slips, what goes with what, edges, images, what is told. */
final class SlipsEdges {
    /** At a COST of 4 the dear STEP is best, up to 3 the cheap one: 13 * (5 - COST) and 3 * (9 - COST). */
    private static final String TURNING = """
        thing 4 4 5 | step 0 9 | sort 10 0 99 0 | write 0 a1<6 = 1 | sort 3 0 99 0 | write 1 a1<10 = 1
        """;
    /** 143 buy at 5, 91 at 7, 63 at 9: BEST turns at a COST of 1 and of 3. */
    private static final String TWICE_TURNING = """
        thing 2 2 5 | step 0 7 | step 0 9 | sort 52 0 99 0 | sort 28 0 99 0 | sort 63 0 99 0
        write 0 a1<6 = 1 | write 1 a1<8 = 1 | write 2 a1<10 = 1
        """;
    /** Something of all that an IMAGE keeps. */
    private static final String TOWN = """
        thing 20 30 40 | step 0 50 | thing 1 2 3 | set 1 0 1 2 | set 1 0 2 1 | show 0 5 | show 1 2 | sort 7 8 9 1
        write 0 a2<60~45;d1<7 = 2 | change 0 4 6 | slip 3 | slip 9 | law 1
        """;

    private final Script script;

    private SlipsEdges(Script script) {
        this.script = script;
    }

    static void all(Script script) {
        SlipsEdges slips = new SlipsEdges(script);
        slips.slip();
        slips.burn();
        slips.with();
        slips.chance();
        slips.chanceOfMany();
        slips.edge();
        slips.edgeByLaw();
        slips.image();
        slips.restore();
        slips.restoresAll();
        slips.restoresTheLast();
        slips.told();
    }

    private void slip() {
        script.test(32, "A SLIP (bits 0 to 15): how many.", "the lowest and the highest", """
            slip -1 = OUTSIDE | slip 16 = OUTSIDE | slip MIN = OUTSIDE | slip MAX = OUTSIDE | told 2 = 0 | slip 0 = 1
            slip 15 = 2
            told 2 = 2 | with 0 3 = 1 | with 1 2 = 1
            """);
        script.test(32, "SLIPS, 30 at most: THINGS that were bought together (bits).", "the 30th and the 31st", """
            times 29 slip 1 = 29 | slip 2 = 30 | slip 4 = FULL | slip 4 = FULL | told 2 = 30 | with 2 2 = 0
            with 0 0 = 29 | with 1 1 = 1
            """);
        script.test(32, "OUTSIDE",
            "also when there are 30", "times 30 slip 1 = 30 | slip 16 = OUTSIDE | slip -1 = OUTSIDE");
        script.test(32, "FULL", "and again room, when they are gone or fewer are restored", """
            slip 1 | image 0 | times 29 slip 1 = 30 | slip 1 = FULL | restore 0 | slip 3 = 2 | burn = 2 | slip 3 = 1
            """);
    }

    private void burn() {
        script.test(33, "SLIPS go: how many there were.", "none, one, thirty", """
            burn = 0 | burn = 0 | slip 15 | burn = 1 | told 2 = 0 | with 0 0 = 0 | burn = 0 | times 30 slip 15 = 30
            burn = 30
            told 2 = 0 | with 3 3 = 0 | chance 0 1 0 = STATE | slip 1 = 1 | with 3 3 = 0 | with 0 0 = 1
            """);
    }

    private void with() {
        script.test(34, "SLIPS with a THING (0 to 3; other the same one)", "of each bit", """
            slip 1 | slip 2 | slip 4 | slip 8 | slip 8 | with 0 0 = 1 | with 1 1 = 1 | with 2 2 = 1 | with 3 3 = 2
            """);
        script.test(34, "WITH of two THINGS: on how many SLIPS both are.", "both, not one of them", """
            with 0 1 = 0 | slip 1 | slip 2 | with 0 1 = 0 | slip 3 | with 0 1 = 1 | with 1 0 = 1 | slip 15
            with 0 1 = 2 | with 2 3 = 1
            slip 0 | with 0 1 = 2
            """);
        script.test(34, "with both.", "whether the THINGS are there or not", """
            told 0 = 0 | slip 9 | with 0 3 = 1 | thing 1 1 1 | with 0 3 = 1 | with 3 3 = 1
            """);
        script.test(34, "UNKNOWN", "below 0 and above 3, of either", """
            with -1 0 = UNKNOWN | with 4 0 = UNKNOWN | with 0 -1 = UNKNOWN | with 0 4 = UNKNOWN | with 4 4 = UNKNOWN
            with MIN 0 = UNKNOWN | with 0 MAX = UNKNOWN | with 3 0 = 0 | with 0 3 = 0
            """);
    }

    private void chance() {
        script.test(35, "STATE: no SLIPS (LOST less 1, 2, 3).", "none, one, none again", """
            chance 0 1 0 = -1000000000000000003 | chance 3 2 1 = STATE | slip 0 | chance 0 1 0 = 1 | chance 0 1 1 = 1
            burn | chance 0 1 0 = STATE
            """);
        script.test(35, "OUTSIDE", "a part that is neither", """
            slip 3 | chance 0 1 -1 = OUTSIDE | chance 0 1 2 = OUTSIDE | chance 0 1 MIN = OUTSIDE
            chance 0 1 MAX = -1000000000000000002
            chance 0 1 0 = 1 | chance 0 1 1 = 1
            """);
        script.test(35, "UNKNOWN: also both are one", "the same, below 0, above 3", """
            slip 3 | chance 0 0 0 = UNKNOWN | chance 3 3 1 = UNKNOWN | chance -1 0 0 = UNKNOWN
            chance 4 0 0 = UNKNOWN
            chance 0 -1 0 = UNKNOWN | chance 0 4 0 = -1000000000000000001 | chance 4 4 0 = UNKNOWN | chance 3 0 0 = 1
            """);
        script.test(35, "CHANCE: the odds that, if the one's SLIPS were drawn by lot among all",
            "either way the same", """
            slip 3 | slip 1 | slip 2 | slip 0 | chance 0 1 0 = 5 | chance 0 1 1 = 6 | slip 1 | slip 0
            chance 0 1 0 = 4 | chance 0 1 1 = 5 | chance 1 0 0 = 4 | chance 1 0 1 = 5
            """);
        script.test(35, "at least so many were of the other's.", "none: it is sure; all; one of two", """
            slip 1 | slip 2 | chance 0 1 0 = 1 | chance 0 1 1 = 1 | burn | slip 3 | slip 0 | chance 0 1 0 = 1
            chance 0 1 1 = 2
            burn | slip 3 | slip 3 | slip 0 | slip 0 | chance 0 1 0 = 1 | chance 0 1 1 = 6 | slip 1 | chance 0 1 0 = 3
            chance 0 1 1 = 10
            """);
        script.test(35, "CHANCE.", "on no SLIP, on all of them", """
            slip 1 | slip 3 | chance 0 2 0 = 1 | chance 0 2 1 = 1 | chance 2 0 0 = 1 | chance 2 0 1 = 1
            chance 2 3 0 = 1 | chance 2 3 1 = 1
            chance 0 1 0 = 1 | chance 0 1 1 = 1 | chance 1 0 0 = 1 | chance 1 0 1 = 1
            """);
    }

    private void chanceOfMany() {
        script.test(35, "CHANCE: the odds", "15 of 30, all of them or all but one", """
            times 15 slip 3 = 15 | times 15 slip 0 = 30 | chance 0 1 0 = 1 | chance 0 1 1 = 155117520 | burn
            times 14 slip 3 = 14 | slip 1 | slip 2 | times 14 slip 0 = 30 | chance 0 1 0 = 113
            chance 0 1 1 = 77558760
            """);
        script.test(35, "CHANCE: the odds", "30 of 30, 1 of 30", """
            times 29 slip 1 = 29 | slip 3 = 30 | chance 0 1 0 = 1 | chance 0 1 1 = 1 | burn | times 29 slip 0 = 29
            slip 3 = 30
            chance 0 1 0 = 1 | chance 0 1 1 = 30
            """);
    }

    private void edge() {
        script.test(36, "EDGE of a SHOP and THING: the nearest other COST there (0 to 99;",
            "below, above, from 0, from 99", TURNING + """
            best 0 = 1 | edge 0 0 = 3 | set 0 0 0 3 | best 0 = 0 | edge 0 0 = 4 | set 0 0 0 0 | edge 0 0 = 4
            set 0 0 0 99
            best 0 = 1 | edge 0 0 = 3
            """);
        script.test(36, "of like ones the lesser)", "one below and one above", TWICE_TURNING + """
            best 0 = 1 | edge 0 0 = 1 | set 0 0 0 1 | best 0 = 0 | edge 0 0 = 2 | set 0 0 0 3 | best 0 = 2
            edge 0 0 = 2
            """);
        script.test(36, "by which that SHOP's BEST is another ROW.", "the first and the last COST there is", """
            thing 1 97 98 | step 0 99 | law 1 | edge 0 0 = 99 | edge 1 0 = 99 | set 0 0 0 99 | edge 0 0 = 98
            set 0 0 0 98 | edge 0 0 = 99
            thing 1 1 0 | step 1 1 | best 1 = 1 | edge 1 1 = 0 | set 1 1 0 0 | best 1 = 0 | edge 1 1 = 1
            """);
        script.test(36, "the nearest other COST there (0 to 99;", "from the one end to the other", """
            thing 0 99 0 | step 0 99 | law 1 | best 0 = 0 | edge 0 0 = 1 | best 1 = 1 | edge 1 0 = 0
            thing 0 99 98 | step 1 99 | edge 0 1 = 99 | edge 1 1 = 98
            """);
        script.test(36, "the nearest other COST there (0 to 99;", "by -1 it would be another, but that is none", """
            thing 0 1 5 | step 0 9 | sort 2 0 99 0 | write 0 a1<6 = 1 | sort 3 0 99 0 | write 1 a1<10 = 1
            most 0 0 = 27
            best 0 = 1 | edge 0 0 = NONE | set 0 0 0 1 | edge 0 0 = NONE
            """);
        script.test(36, "the nearest other COST there (0 to 99;", "by 100 it would be another, but that is none", """
            thing 99 99 50 | step 0 60 | thing 0 0 99 | sort 1 0 99 0 | write 0 a2<60;b1<99 = 2 | best 0 = 0
            most 0 0 = 1
            edge 0 0 = NONE | set 0 0 0 90 | edge 0 0 = NONE
            """);
        script.test(36, "by which that SHOP's BEST is another ROW.",
            "those who take what is below COST come by it", """
            thing 5 5 5 | step 0 6 | sort 9 0 99 2 | write 0 a1<9 = 1 | best 0 = 0 | edge 0 0 = 6 | set 0 0 0 6
            best 0 = 1 | edge 0 0 = 5
            """);
        script.test(36, "EDGE; NONE.", "nobody comes, or there is one ROW", """
            thing 4 4 5 | edge 0 0 = NONE | step 0 9 | edge 0 0 = NONE | sort 1 0 99 0 | edge 0 0 = NONE
            write 0 a1<20~1 = 1
            best 0 = 1 | edge 0 0 = NONE | edge 1 0 = NONE
            """);
        script.test(36, "by which that SHOP's BEST", "by the COST of that SHOP and THING alone", TURNING + """
            edge 1 0 = NONE | thing 7 7 7 | edge 0 1 = NONE | edge 0 0 = 3 | set 0 0 0 4 = 4 | set 0 1 0 7 = 7
            set 1 0 0 4 = 4
            """);
        script.test(36, "UNKNOWN", "no such SHOP, no such THING", """
            edge 0 0 = UNKNOWN | thing 4 4 5 | edge 0 0 = NONE | edge 2 0 = UNKNOWN | edge -1 0 = UNKNOWN
            edge 0 1 = UNKNOWN
            edge 0 -1 = UNKNOWN
            """);
    }

    private void edgeByLaw() {
        script.test(36, "NO: LAW allows no ROW.", "at COST, one above", TURNING + """
            law 1 | set 0 0 0 9 | edge 0 0 = 3 | set 0 0 0 10 | edge 0 0 = NO | law 0 | edge 0 0 = 3
            """);
        script.test(36, "NO: LAW allows no ROW.", "by another THING, by the other SHOP", TURNING + """
            law 1 | thing 5 5 4 | edge 0 0 = NO | edge 0 1 = NO | set 0 1 0 4 | edge 0 0 = 3 | edge 1 0 = NO
            """);
        script.test(36, "(COSTS by which LAW allows none are passed over.)", "far above, to the other side", """
            thing 9 9 8 | step 0 9 | law 1 | best 0 = 1 | edge 0 0 = 8 | thing 0 5 5 | edge 0 1 = NONE | law 0
            edge 0 1 = NONE
            """);
    }

    private void image() {
        script.test(37, "kept in an IMAGE (0, 1): 1.", "below, 0, 1, above", """
            image -1 = OUTSIDE | image 2 = OUTSIDE | image MIN = OUTSIDE | image MAX = OUTSIDE | restore 0 = STATE
            restore 1 = STATE
            image 0 = 1 | restore 1 = STATE | restore 0 = 1 | image 1 = 1 | restore 1 = 1
            """);
        script.test(37, "OUTSIDE",
            "what was kept stays", "law 1 | image 0 = 1 | law 0 | image 2 = OUTSIDE | image -1 = OUTSIDE | restore 0 = 1 | told 4 = 1");
        script.test(37, "All but signs is", "the signs are those of now", """
            says a1<5 = 4 | sort 1 0 0 0 | image 0 = 1 | wipe = 4 | restore 0 = 1 | told 3 = 0 | fault = 0
            says b = 1 | restore 0 = 1
            told 3 = 1 | fault = 1 | says 2<7 = 4 | list 0 = 1 | restore 0 = 1 | item 0 1 0 = NONE | told 3 = 0
            """);
        script.test(37, "kept in an IMAGE", "anew, each for itself", """
            image 0 = 1 | thing 1 1 1 | image 1 = 1 | thing 1 1 1 | restore 0 = 1 | told 0 = 0 | restore 1 = 1
            told 0 = 1 | thing 1 1 1
            image 0 = 1 | restore 1 = 1 | told 0 = 1 | restore 0 = 1 | told 0 = 2
            """);
    }

    private void restore() {
        script.test(38, "OUTSIDE; STATE: it was not.", "below, above, not kept", """
            restore -1 = OUTSIDE | restore 2 = OUTSIDE | restore MIN = OUTSIDE | restore MAX = OUTSIDE
            restore 0 = STATE | restore 1 = STATE
            image 1 = 1 | restore 0 = STATE | restore 1 = 1
            """);
        script.test(38, "It is as it was when it was kept: 1.", "an empty one, again and again", """
            image 0 = 1 | thing 1 1 1 | sort 1 0 0 0 | slip 1 | restore 0 = 1 | told 0 = 0 | told 1 = 0 | told 2 = 0
            restore 0 = 1
            thing 2 2 2 = 0 | restore 0 = 1 | told 0 = 0 | told 10 = NONE
            """);
        script.test(38, "It is as it was when it was kept",
            "what is done after it does not change the IMAGE", TOWN + """
            image 0 = 1 | restore 0 = 1 | set 0 0 0 0 = 20 | set 1 0 1 0 = 2 | show 0 0 = 5 | change 0 4 0 = 6
            burn = 2 | law 0 = 1
            restore 0 = 1 | set 0 0 0 0 = 20 | set 1 0 1 0 = 2 | show 0 0 = 5 | change 0 4 0 = 6 | burn = 2
            law 0 = 1
            """);
        script.test(38, "It is as it was when it was kept", "IMAGES are none of what is kept", """
            image 0 = 1 | law 1 | image 1 = 1 | restore 0 = 1 | told 4 = 0 | restore 1 = 1 | told 4 = 1
            """);
    }

    /** The last of what there may be of each. */
    private void restoresTheLast() {
        script.test(38, "It is as it was when it was kept", "four THINGS, five SORTS, thirty SLIPS", """
            times 4 thing 7 8 1 = 3 | step 3 2 | step 3 3 | set 0 3 2 1 | set 1 3 2 2 | set 1 3 1 1 | show 0 8
            show 1 8
            times 5 sort 5 6 7 2 = 4 | change 4 4 6 | write 4 d3<9~8 = 1 | times 29 slip 1 = 29 | slip 8 | image 1 = 1
            set 0 3 0 0 | set 1 3 0 0 | set 0 3 2 2 | set 1 3 2 0 | set 1 3 1 3 | show 0 0 | show 1 0 | change 4 0 1
            change 4 1 1
            change 4 2 1 | change 4 3 1 | change 4 4 1 | write 4 d1<1 = 1 | burn | times 30 slip 6 = 30
            restore 1 = 1
            told 0 = 4 | told 1 = 5 | told 2 = 30 | told 5 = 3 | told 21 = 3 | row 0 = 1 | row 1 = 2 | set 0 3 0 7 = 7
            set 1 3 0 8 = 8
            set 1 3 1 1 = 1 | show 0 8 = 8 | show 1 8 = 8 | change 4 0 5 = 5 | change 4 1 6 = 6 | change 4 2 7 = 7
            change 4 3 2 = 2
            change 4 4 6 = 6 | item 4 3 0 = 3 | item 4 3 1 = 9 | item 4 3 2 = 8 | with 0 0 = 29 | with 3 3 = 1
            with 1 1 = 0
            """);
    }

    /** Each thing that is kept, changed and restored. */
    private void restoresAll() {
        String[][] kept = {
            {"thing 9 9 9", "told 0 = 2 | told 16 = NONE"}, {"step 0 60", "told 5 = 2 | told 12 = NONE"},
            {"step 1 4", "told 5 = 2 | told 14 = NONE"}, {"set 0 0 0 1", "set 0 0 0 1 = 20"},
            {"set 1 0 0 1", "set 1 0 0 1 = 30"}, {"set 1 1 0 1", "set 1 1 0 1 = 2"}, {"set 1 0 1 0", "set 1 0 1 0 = 2"},
            {"set 0 1 1 0", "set 0 1 1 0 = 3"}, {"set 1 0 2 0", "row 1 = 1"}, {"set 0 0 2 1", "row 0 = 0"},
            {"show 0 0", "show 0 0 = 5"}, {"show 1 0", "show 1 0 = 2"}, {"sort 1 1 1 1", "told 1 = 1"},
            {"change 0 0 1", "change 0 0 1 = 7"}, {"change 0 1 1", "change 0 1 1 = 8"}, {"change 0 2 1", "change 0 2 1 = 9"},
            {"change 0 3 0", "change 0 3 0 = 1"}, {"change 0 4 0", "change 0 4 0 = 6"},
            {"write 0 b1<1 = 1", "item 0 0 0 = 2 | item 0 0 1 = 60 | item 0 0 2 = 45 | item 0 1 0 = NONE | item 0 3 2 = NONE"},
            {"slip 1", "told 2 = 2 | with 0 0 = 2"}, {"burn", "told 2 = 2 | with 0 1 = 1 | with 0 3 = 1"},
            {"burn | slip 4 | slip 4", "told 2 = 2 | with 0 1 = 1 | with 0 3 = 1 | with 2 2 = 0"}, {"law 0", "told 4 = 1"}};
        for (String[] row : kept) {
            for (int n = 0; n < 2; n++) {
                script.test(38, "It is as it was when it was kept", "IMAGE " + n + ", after " + row[0],
                    TOWN + "image " + n + " = 1\n" + row[0] + "\nrestore " + n + " = 1\n" + row[1]);
            }
        }
    }

    private void told() {
        script.test(39, "0 THINGS, 1 SORTS, 2 SLIPS, 3 signs, 4 LAW, 5 ROWS of a SHOP", "none of each", """
            told 0 = 0 | told 1 = 0 | told 2 = 0 | told 3 = 0 | told 4 = 0 | told 5 = 1
            """);
        script.test(39, "0 THINGS, 1 SORTS, 2 SLIPS, 3 signs, 4 LAW, 5 ROWS of a SHOP", "all of each", """
            times 4 thing 1 1 1 = 3 | step 0 2 | step 0 3 | step 1 2 | step 1 3 | step 2 2 | step 2 3 | step 3 2
            told 5 = 54 | step 3 3
            times 5 sort 1 0 0 0 = 4 | times 30 slip 0 = 30 | times 40 say 33 = 40 | law 1
            told 0 = 4 | told 1 = 5 | told 2 = 30 | told 3 = 40 | told 4 = 1 | told 5 = 81
            """);
        script.test(39, "10 to 21 prices (3 of each THING; NONE).", "each has its place", """
            thing 1 1 5 | step 0 6 | step 0 7 | thing 1 1 0 | thing 1 1 98 | step 2 99 | told 10 = 5 | told 11 = 6
            told 12 = 7 | told 13 = 0
            told 14 = NONE | told 15 = NONE | told 16 = 98 | told 17 = 99 | told 18 = NONE | told 19 = NONE
            told 20 = NONE | told 21 = NONE
            thing 1 1 1 | step 3 2 | step 3 3 | told 19 = 1 | told 20 = 2 | told 21 = 3
            """);
        script.test(39, "OUTSIDE", "below, between, above", """
            told -1 = OUTSIDE | told 6 = OUTSIDE | told 7 = OUTSIDE | told 8 = OUTSIDE | told 9 = OUTSIDE
            told 22 = OUTSIDE
            told MIN = OUTSIDE | told MAX = OUTSIDE | told 0 = 0 | told 5 = 1 | told 10 = NONE | told 21 = NONE
            """);
    }
}
