/** Promises 28 to 31 at their edges: so many a head, the window, who is hurt, and the shelf at home. */
final class WeeksEdges {
    /** A lure that costs, and one that brings them: three of a, or fewer, and b. */
    private static final String BASKETS = """
        thing 10 10 8 | thing 0 0 5 | sort 1 6 99 0 | write 0 a3<10;b1<6 = 2
        """;
    /** Each of four is taken for too dear; one that is shown is a gain of 1. */
    private static final String UNSEEN = """
        times 4 thing 0 0 5 = 3 | sort 1 3 99 0 | write 0 a1<6~9;b1<6~9;c1<6~9;d1<6~9 = 4
        """;
    /** With a below COST they come to SHOP 0, else they go to SHOP 1, which is dear. */
    private static final String LURED = """
        thing 20 20 10 | step 0 20 | step 0 30 | thing 10 10 12 | step 1 20 | set 1 0 2 2 | set 1 1 2 1
        sort 10 25 12 0 | write 0 a1<30;b2<20~10 = 2 | sort 3 0 0 2 | write 1 a3<30 = 1
        """;
    /** Two a week at 8 or 12 (10 is between), which cost 5 in SHOP 0 and 9 in SHOP 1; five on the SHELF. */
    private static final String PANTRY = """
        thing 5 9 8 | step 0 10 | step 0 12 | sort 7 4 4 0 | write 0 a2<12~9 = 1 | change 0 4 5
        """;

    private final Script script;

    private WeeksEdges(Script script) {
        this.script = script;
    }

    static void all(Script script) {
        WeeksEdges weeks = new WeeksEdges(script);
        weeks.heads();
        weeks.shown();
        weeks.shownOfSeveral();
        weeks.hurt();
        weeks.homeByNumbers();
        weeks.homeByShelf();
        weeks.homeByPrice();
        weeks.homeByWorth();
        weeks.homeRefused();
    }

    private void heads() {
        script.test(28, "HEADS: the HEAD of a THING in a SHOP (0 to 3) by which LEFT is most",
            "0, 1, 2 and 3", BASKETS + """
            heads 0 0 = 2 | change 0 1 0 | heads 0 0 = 0 | change 0 1 1 | heads 0 0 = 1 | set 0 0 0 7 | heads 0 0 = 3
            """);
        script.test(28, "the greatest such.", "nobody, and those who want but one", """
            thing 1 1 5 | heads 0 0 = 3 | heads 1 0 = 3 | sort 1 0 99 0 | write 0 a1<9 = 1 | heads 0 0 = 3
            set 0 0 0 5
            heads 0 0 = 3 | set 0 0 0 6 | heads 0 0 = 0
            """);
        script.test(28, "the greatest such.", "of 0 to 2, of 1 to 3", BASKETS + """
            heads 0 0 = 2 | change 0 1 50 | heads 0 0 = 3 | heads 0 1 = 3 | heads 1 0 = 3
            """);
        script.test(28, "HEADS.", "whatever HEAD is now, and it stays so", BASKETS + """
            set 0 0 1 0 | heads 0 0 = 2 | set 0 0 1 1 = 0 | heads 0 0 = 2 | set 0 0 1 3 = 1
            """);
        script.test(28, "UNKNOWN", "no such SHOP, no such THING", """
            heads 0 0 = UNKNOWN | thing 1 1 5 | heads 0 0 = 3 | heads 0 1 = UNKNOWN | heads 0 -1 = UNKNOWN
            heads 2 0 = UNKNOWN
            heads -1 0 = UNKNOWN
            """);
    }

    private void shown() {
        script.test(29, "SHOWN of at most k (0 to 4): the set as bits.", "none to four are needed", UNSEEN + """
            shown 0 3 = 0 | shown 0 4 = 15 | change 0 1 2 | shown 0 2 = 0 | shown 0 3 = 7 | change 0 1 1
            shown 0 1 = 0
            shown 0 2 = 3 | shown 0 4 = 3 | change 0 1 0 | shown 0 0 = 0 | shown 0 1 = 1 | shown 0 4 = 1
            """);
        script.test(29, "OUTSIDE", "k below 0 and above 4", """
            shown 0 -1 = OUTSIDE | shown 0 5 = OUTSIDE | shown 1 MIN = OUTSIDE | shown 1 MAX = OUTSIDE | shown 0 0 = 0
            shown 0 4 = 0
            """);
        script.test(29, "UNKNOWN",
            "no such SHOP", "shown 2 0 = UNKNOWN | shown -1 4 = UNKNOWN | shown 2 5 = UNKNOWN | shown 1 0 = 0");
        script.test(29, "SHOWN: of sets of at most k THINGS as WINDOW that with the most LEFT",
            "whatever is shown now", UNSEEN + """
            show 0 15 | shown 0 4 = 15 | shown 0 3 = 0 | show 1 15 | shown 0 4 = 15 | show 0 0 = 15 | show 1 0 = 15
            """);
        script.test(29, "SHOWN: of sets of at most k THINGS", "THINGS that are there alone", """
            thing 0 0 5 | sort 1 0 99 0 | write 0 a1<6~9;b1<6~9 = 2 | shown 0 4 = 1 | change 0 1 1 | shown 0 4 = 0
            thing 0 0 5
            shown 0 4 = 3
            """);
    }

    private void shownOfSeveral() {
        script.test(29, "of several the fewest THINGS", "none, if no set is more", UNSEEN + """
            times 3 change 0 1 4 = 4 | shown 0 4 = 0 | change 0 1 0 | set 0 0 0 20 | shown 0 4 = 0
            """);
        script.test(29, "of several the fewest THINGS", "d alone ahead of a and b", """
            times 4 thing 0 0 5 = 3 | sort 1 1 99 0 | write 0 a1<6~9;b1<6~9;c1<6~9;d1<7~9 = 4 | shown 0 1 = 8
            shown 0 4 = 8
            """);
        script.test(29, "then the least as bits.", "of two, of three", """
            times 4 thing 0 0 5 = 3 | sort 1 1 99 0 | write 0 a1<5~9;b1<6~9;c1<6~9;d1<6~9 = 4 | shown 0 2 = 6
            shown 0 4 = 6
            change 0 1 2 | shown 0 4 = 14 | change 0 1 0 | shown 0 4 = 2
            """);
        script.test(29, "that with the most LEFT", "what they take for cheaper than it is is better not shown", """
            thing 0 0 5 | sort 1 3 99 0 | write 0 a1<6~1 = 1 | show 0 1 | left 0 = 0 | shown 0 4 = 0 | show 0 0
            left 0 = 5
            """);
    }

    private void hurt() {
        script.test(30, "HURT: SORTS that SAVE less, if SHOP 0 goes to BEST by LAW 1, than if it goes to BEST by LAW 0",
            "both", LURED + """
            best 0 = 1 | most 0 0 = 10 | hurt = 3 | law 1 | hurt = 3 | set 0 0 2 2 | set 0 1 2 1 | hurt = 3
            row 0 = 5
            """);
        script.test(30, "HURT: SORTS that SAVE less", "as much is not less", LURED + """
            change 0 2 6 | hurt = 3 | change 0 2 5 | best 0 = 1 | hurt = 2
            """);
        script.test(30, "(the other one's as it is)", "SHOP 1 cheap as well", LURED + """
            set 1 0 2 0 | set 1 1 2 0 | hurt = 0
            """);
        script.test(30, "HURT, as bits.", "none, the fifth, nobody", """
            hurt = 0 | thing 20 0 10 | step 0 30 | thing 10 10 20 | hurt = 0 | times 5 sort 1 0 99 0 = 4 | hurt = 0
            change 4 1 15
            write 4 a1<30;b2<20~20 = 2 | best 0 = 0 | lures 0 = 1 | hurt = 16
            """);
        script.test(30, "NO: LAW 1 allows no ROW.", "at COST, one above, of SHOP 0 alone, whatever LAW is", """
            thing 5 5 5 | hurt = 0 | set 1 0 0 6 | hurt = 0 | set 0 0 0 6 | hurt = NO | law 1 | hurt = NO
            set 0 0 0 5 | hurt = 0
            """);
    }

    private void homeByNumbers() {
        script.test(31, "HOME: what is BOUGHT (what = 0), LEFT by it (1), on the SHELF at last (2).",
            "six weeks", PANTRY + """
            home 0 0 0 5 6 0 = 12 | home 0 0 0 5 6 1 = 40 | home 0 0 0 5 6 2 = 0 | home 0 0 0 5 6 0 = 12
            home 0 1 0 5 6 0 = 12 | home 0 1 0 5 6 1 = -8 | home 0 1 0 5 6 2 = 0
            """);
        script.test(31, "through n weeks (1 to 12;", "none, one, twelve, thirteen", PANTRY + """
            home 0 0 0 0 0 0 = OUTSIDE | home 0 0 0 0 -1 0 = OUTSIDE | home 0 0 0 0 1 0 = 2 | home 0 0 0 0 12 0 = 24
            home 0 0 0 0 13 0 = OUTSIDE | home 0 0 0 0 MIN 0 = OUTSIDE | home 0 0 0 0 MAX 0 = OUTSIDE
            home 0 0 0 0 12 1 = 168
            """);
        script.test(31, "bits: weeks of the first STEP, all others of the last one)",
            "the first, the twelfth, all", PANTRY + """
            home 0 0 0 1 1 0 = 7 | home 0 0 0 1 1 1 = 21 | home 0 0 0 1 1 2 = 5 | home 0 0 0 2048 12 0 = 29
            home 0 0 0 2048 12 1 = 175
            home 0 0 0 2048 12 2 = 5 | home 0 0 0 4095 12 0 = 29 | home 0 0 0 4095 12 1 = 87
            home 0 0 0 4095 12 2 = 5
            home 0 0 0 1 12 0 = 24 | home 0 0 0 1 12 2 = 0
            """);
        script.test(31, "bits: weeks of the first STEP", "bits of no week at all", PANTRY + """
            home 0 0 0 -1 1 0 = OUTSIDE | home 0 0 0 4096 1 0 = OUTSIDE | home 0 0 0 4096 12 0 = OUTSIDE
            home 0 0 0 MIN 12 0 = OUTSIDE
            home 0 0 0 MAX 12 0 = OUTSIDE | home 0 0 0 -4096 12 0 = OUTSIDE | home 0 0 0 4095 12 0 = 29
            home 0 0 0 0 12 0 = 24
            """);
        script.test(31, "bits: weeks of the first STEP", "bits of weeks behind the n-th do not matter", PANTRY + """
            home 0 0 0 4094 1 0 = 2 | home 0 0 0 4095 1 0 = 7 | home 0 0 0 4 2 0 = 4 | home 0 0 0 2048 11 0 = 22
            home 0 0 0 4037 6 0 = 12
            """);
    }

    private void homeByShelf() {
        script.test(31, "HOME: a SORT with a SHELF (0 to 6) for one THING of its LIST in a SHOP",
            "none, one, six", PANTRY + """
            change 0 4 0 | home 0 0 0 1 2 0 = 4 | home 0 0 0 1 2 2 = 0 | home 0 0 0 1 1 0 = 2
            change 0 4 1 | home 0 0 0 1 1 0 = 3 | home 0 0 0 1 1 2 = 1 | home 0 0 0 1 2 0 = 4 | home 0 0 0 1 2 2 = 0
            change 0 4 6 | home 0 0 0 1 1 0 = 8 | home 0 0 0 1 1 2 = 6 | home 0 0 0 1 4 0 = 8 | home 0 0 0 1 4 2 = 0
            home 0 0 0 1 5 0 = 10
            """);
        script.test(31, "it takes them from what it BUYS and fills the SHELF, too;",
            "empty, half full, full", PANTRY + """
            home 0 0 0 1 1 0 = 7 | home 0 0 0 3 2 0 = 9 | home 0 0 0 3 2 2 = 5 | home 0 0 0 5 3 0 = 11
            home 0 0 0 5 3 2 = 5
            home 0 0 0 17 5 0 = 15 | home 0 0 0 17 5 2 = 5
            """);
        script.test(31, "in others first from the SHELF, the rest it BUYS;",
            "enough, too few, none on it", PANTRY + """
            home 0 0 0 1 2 0 = 7 | home 0 0 0 1 2 2 = 3 | home 0 0 0 1 3 0 = 7 | home 0 0 0 1 3 2 = 1
            home 0 0 0 1 4 0 = 8
            home 0 0 0 1 4 1 = 28 | home 0 0 0 1 4 2 = 0 | home 0 0 0 1 5 0 = 10 | home 0 0 0 1 5 1 = 42
            """);
        script.test(31, "each week it uses how many are on the LIST (HEAD does not matter):",
            "1 and 3, HEAD 0", PANTRY + """
            set 0 0 1 0 | home 0 0 0 0 1 0 = 2 | write 0 a1<12 = 1 | home 0 0 0 0 1 0 = 1 | home 0 0 0 1 6 0 = 6
            home 0 0 0 1 7 0 = 7
            write 0 a3<12 = 1 | home 0 0 0 0 1 0 = 3 | home 0 0 0 1 2 2 = 2 | home 0 0 0 1 3 0 = 9
            """);
        script.test(31, "LEFT by it; what is on the SHELF at last.",
            "it begins with nothing there, each time", PANTRY + """
            home 0 0 0 1 1 2 = 5 | home 0 0 0 0 1 2 = 0 | home 0 0 0 0 1 0 = 2 | home 0 0 0 1 1 0 = 7
            home 0 0 0 0 12 2 = 0
            """);
    }

    private void homeByPrice() {
        script.test(31, "in a week of the first STEP, if that is lower than the last one,", "one STEP, two", """
            thing 5 5 8 | sort 7 4 4 0 | write 0 a2<12 = 1 | change 0 4 5 | home 0 0 0 1 1 0 = 2
            home 0 0 0 1 1 2 = 0
            home 0 0 0 3 2 1 = 12 | step 0 9 | home 0 0 0 1 1 0 = 7 | home 0 0 0 1 1 1 = 21 | home 0 0 0 0 1 1 = 8
            """);
        script.test(31, "all others of the last one",
            "the one between, and where it stands, do not matter", PANTRY + """
            home 0 0 0 0 1 1 = 14 | set 0 0 2 1 | home 0 0 0 0 1 1 = 14 | home 0 0 0 1 1 1 = 21 | set 0 0 2 2
            home 0 0 0 1 1 1 = 21
            """);
        script.test(31, "LEFT by it", "by one of them, below and above nothing", PANTRY + """
            home 0 1 0 1 1 1 = -7 | home 0 1 0 0 1 1 = 6 | home 0 1 0 1 2 1 = -7 | change 0 0 99
            home 0 1 0 1 1 1 = -7 | set 1 0 0 8
            home 0 1 0 1 1 1 = 0 | set 1 0 0 99 | home 0 1 0 1 1 1 = -637
            """);
        script.test(31, "What one of them BUYS in all;",
            "how FAR it is, by which WAY, and LAW do not matter", PANTRY + """
            change 0 1 99 | home 0 0 0 1 1 0 = 7 | change 0 3 1 | home 0 0 0 1 1 0 = 7 | change 0 3 2
            home 0 0 0 1 1 0 = 7
            home 0 0 0 0 1 0 = 2 | law 1 | home 0 1 0 1 1 0 = 7
            """);
    }

    private void homeByWorth() {
        script.test(31, "it never BUYS above WORTH (then what lacks is not had).",
            "the last STEP at WORTH, one above", PANTRY + """
            home 0 0 0 0 3 0 = 6 | write 0 a2<11 = 1 | home 0 0 0 0 3 0 = 0 | home 0 0 0 0 3 1 = 0
            home 0 0 0 1 1 0 = 7
            home 0 0 0 1 4 0 = 7 | home 0 0 0 1 4 1 = 21 | home 0 0 0 1 4 2 = 0 | home 0 0 0 1 3 2 = 1
            home 0 0 0 9 4 0 = 13
            """);
        script.test(31, "it never BUYS above WORTH", "the first STEP at WORTH, one above", PANTRY + """
            write 0 a2<8 = 1 | home 0 0 0 1 1 0 = 7 | home 0 0 0 1 1 2 = 5 | home 0 0 0 4095 12 0 = 29
            write 0 a2<7 = 1 | home 0 0 0 1 1 0 = 0 | home 0 0 0 1 1 1 = 0 | home 0 0 0 1 1 2 = 0
            home 0 0 0 4095 12 0 = 0
            home 0 0 0 4095 12 2 = 0
            """);
        script.test(31, "it never BUYS above WORTH", "a GUESS does not matter", PANTRY + """
            write 0 a2<12~99 = 1 | home 0 0 0 1 1 0 = 7 | write 0 a2<7~0 = 1 | home 0 0 0 1 1 0 = 0
            """);
    }

    private void homeRefused() {
        script.test(31, "UNKNOWN: also the THING is not on the LIST;", "not on it; on it, but not there", PANTRY + """
            thing 1 1 1 | home 0 0 1 0 1 0 = UNKNOWN | write 0 a2<12;c1<9 = 2 | home 0 0 1 0 1 0 = UNKNOWN
            home 0 0 2 0 1 0 = UNKNOWN
            thing 1 1 1 | home 0 0 2 0 1 0 = 1 | write 0 b1<9 = 1 | home 0 0 0 0 1 0 = UNKNOWN | home 0 0 1 0 1 0 = 1
            """);
        script.test(31, "UNKNOWN", "no such SORT, SHOP, THING", PANTRY + """
            home 1 0 0 0 1 0 = UNKNOWN | home -1 0 0 0 1 0 = UNKNOWN | home 0 2 0 0 1 0 = UNKNOWN
            home 0 -1 0 0 1 0 = UNKNOWN
            home 0 0 1 0 1 0 = UNKNOWN | home 0 0 -1 0 1 0 = UNKNOWN | home 0 0 4 0 1 0 = UNKNOWN
            """);
        script.test(31, "OUTSIDE (LOST less 1, 2)", "what is neither of the three", PANTRY + """
            home 0 0 0 0 1 -1 = -1000000000000000002 | home 0 0 0 0 1 3 = -1000000000000000002
            home 0 0 0 0 1 MIN = OUTSIDE
            home 0 0 0 0 1 MAX = OUTSIDE | home 0 0 1 0 1 3 = -1000000000000000001
            """);
    }
}
