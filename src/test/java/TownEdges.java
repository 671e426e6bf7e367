/** Promises 1 to 13 at their edges: the town, its signs and its lists. */
final class TownEdges {
    private final Script script;

    private TownEdges(Script script) {
        this.script = script;
    }

    static void all(Script script) {
        TownEdges town = new TownEdges(script);
        town.aNewObject();
        town.emptyTown();
        town.thing();
        town.step();
        town.set();
        town.show();
        town.sort();
        town.change();
        town.say();
        town.wipe();
        town.faultOfOneItem();
        town.faultOfDigits();
        town.faultOfSeveralItems();
        town.list();
        town.item();
        town.law();
    }

    private void aNewObject() {
        script.test(1, "No THINGS", "none is told, none can be named", """
            told 0 = 0 | told 5 = 1 | row 0 = 0 | row 1 = 0
            told 10 = NONE | told 11 = NONE | told 12 = NONE | told 13 = NONE | told 14 = NONE | told 15 = NONE
            told 16 = NONE | told 17 = NONE | told 18 = NONE | told 19 = NONE | told 20 = NONE | told 21 = NONE
            step 0 5 = UNKNOWN | set 0 0 0 0 = UNKNOWN | set 0 0 2 0 = UNKNOWN | brings 0 0 = UNKNOWN
            heads 0 0 = UNKNOWN | edge 0 0 = UNKNOWN | thing 1 1 1 = 0
            """);
        script.test(1, "SORTS", "none is told, none can be named", """
            told 1 = 0 | change 0 0 1 = UNKNOWN | list 0 = UNKNOWN | item 0 0 0 = UNKNOWN | thinks 0 0 = UNKNOWN
            goes 0 = UNKNOWN | saves 0 = UNKNOWN | thing 1 1 1 | buys 0 0 0 = UNKNOWN | home 0 0 0 0 1 0 = UNKNOWN
            sort 1 0 0 0 = 0
            """);
        script.test(1, "SLIPS", "none", """
            told 2 = 0 | with 0 0 = 0 | with 3 2 = 0 | chance 0 1 0 = STATE | burn = 0 | slip 0 = 1
            """);
        script.test(1, "LAW 0", "it was 0", "told 4 = 0 | law 0 = 0 | law 1 = 0");
        script.test(1, "the PAD is empty", "no signs", "told 3 = 0 | fault = 0 | wipe = 0 | say 97 = 1");
        script.test(1, "(bits; none at first)", "WINDOWS of a new object", "show 0 0 = 0 | show 1 0 = 0");
        script.test(38, "it was not", "no IMAGE of a new object", "restore 0 = STATE | restore 1 = STATE");
    }

    private void emptyTown() {
        for (int law = 0; law < 2; law++) {
            for (int shop = 0; shop < 2; shop++) {
                script.test(1, "No THINGS", "what is asked of SHOP " + shop + " by LAW " + law, """
                    law LAW | left SHOP = 0 | best SHOP = 0 | most SHOP 0 = 0 | most SHOP 1 = 0 | most SHOP 2 = 0
                    climb SHOP = 0 | lures SHOP = 0 | only SHOP = 0 | rest -1 = 1 | rest 0 = 0 | rest 1 = NONE
                    ring SHOP 0 = 0 | ring SHOP 1 = 0 | ring SHOP 2 = 0 | ring SHOP 3 = 0
                    shown SHOP 0 = 0 | shown SHOP 4 = 0 | hurt = 0
                    """.replace("SHOP", "" + shop).replace("LAW", "" + law));
            }
        }
        script.test(1, "No THINGS", "people in a town without THINGS", """
            sort 99 0 0 1 | write 0 a3<99;b3<99~0 = 2 | goes 0 = 0 | thinks 0 0 = 0 | thinks 0 2 = 0 | saves 0 = 0
            left 0 = 0 | only 0 = 0 | hurt = 0 | most 0 2 = 0 | rest -1 = 1 | ring 1 1 = 0
            """);
    }

    private void thing() {
        script.test(2, "a COST in each SHOP (0 to 99)", "in SHOP 0", """
            thing -1 5 5 = OUTSIDE | thing 100 5 5 = OUTSIDE | thing MIN 5 5 = OUTSIDE | thing MAX 5 5 = OUTSIDE
            told 0 = 0 | thing 0 5 5 = 0 | thing 99 5 5 = 1 | set 0 0 0 1 = 0 | set 0 1 0 1 = 99
            """);
        script.test(2, "a COST in each SHOP (0 to 99)", "in SHOP 1", """
            thing 5 -1 5 = OUTSIDE | thing 5 100 5 = OUTSIDE | thing 5 MIN 5 = OUTSIDE | thing 5 MAX 5 = OUTSIDE
            told 0 = 0 | thing 5 0 5 = 0 | thing 5 99 5 = 1 | set 1 0 0 1 = 0 | set 1 1 0 1 = 99
            """);
        script.test(2, "STEPS of price, 3 at most, rising (0 to 99)", "the first one", """
            thing 5 5 -1 = OUTSIDE | thing 5 5 100 = OUTSIDE | thing 5 5 MIN = OUTSIDE | thing 5 5 MAX = OUTSIDE
            told 0 = 0 | told 10 = NONE | thing 5 5 0 = 0 | thing 5 5 99 = 1 | told 10 = 0 | told 13 = 99
            """);
        script.test(2, "A THING with its COSTS and first STEP: its number.", "what it is", """
            thing 20 30 40 = 0 | told 0 = 1 | told 5 = 1 | told 10 = 40 | told 11 = NONE
            set 0 0 0 1 = 20 | set 1 0 0 1 = 30 | thing 21 31 41 = 1 | told 13 = 41 | set 1 1 0 1 = 31
            """);
        script.test(2, "OUTSIDE", "two numbers at once, and those that are right", """
            thing -1 100 5 = OUTSIDE | thing 100 100 100 = OUTSIDE | thing 5 5 5 = 0
            """);
        script.test(2, "THINGS, 4 at most", "the fourth and the fifth", """
            thing 1 1 1 = 0 | thing 1 1 1 = 1 | thing 1 1 1 = 2 | thing 4 5 6 = 3 | thing 7 8 9 = FULL
            told 0 = 4 | told 19 = 6 | set 0 3 0 0 = 4 | set 1 3 0 0 = 5
            """);
        script.test(2, "FULL", "and again room, when fewer are restored", """
            image 0 | times 4 thing 1 1 1 = 3 | thing 2 2 2 = FULL | thing 2 2 2 = FULL | restore 0 = 1
            thing 2 2 2 = 0
            told 10 = 2 | told 13 = NONE
            """);
        script.test(2, "Each SHOP has each THING at a STEP (0 at first)", "of each THING", """
            times 4 thing 1 1 1 = 3
            set 0 0 2 0 = 0 | set 0 1 2 0 = 0 | set 0 2 2 0 = 0 | set 0 3 2 0 = 0
            set 1 0 2 0 = 0 | set 1 1 2 0 = 0 | set 1 2 2 0 = 0 | set 1 3 2 0 = 0
            """);
        script.test(2, "HEAD: of a THING nobody gets more than so many in a SHOP (0 to 3; 3 at first).",
            "at first", """
            times 4 thing 1 1 1 = 3
            set 0 0 1 0 = 3 | set 0 1 1 0 = 3 | set 0 2 1 0 = 3 | set 0 3 1 0 = 3
            set 1 0 1 0 = 3 | set 1 1 1 0 = 3 | set 1 2 1 0 = 3 | set 1 3 1 0 = 3
            """);
    }

    private void step() {
        script.test(3, "A STEP more of a THING: its number.", "one and two", """
            thing 1 1 5 | thing 1 1 7 | step 1 8 = 1 | step 0 6 = 1 | step 1 9 = 2 | step 0 7 = 2
            told 10 = 5 | told 11 = 6 | told 12 = 7 | told 13 = 7 | told 14 = 8 | told 15 = 9
            """);
        script.test(3, "UNKNOWN", "no such THING", """
            step 0 50 = UNKNOWN | thing 1 1 5 | step 1 50 = UNKNOWN | step -1 50 = UNKNOWN | step MIN 50 = UNKNOWN
            step MAX 50 = UNKNOWN | step 4 50 = UNKNOWN | told 11 = NONE | step 0 50 = 1
            """);
        script.test(3, "OUTSIDE: also not above the last one", "the last one itself, and one above", """
            thing 1 1 5 | step 0 4 = OUTSIDE | step 0 5 = OUTSIDE | told 5 = 1 | step 0 6 = 1
            step 0 5 = OUTSIDE | step 0 6 = OUTSIDE | told 5 = 2 | step 0 7 = 2 | told 5 = 3
            """);
        script.test(3, "OUTSIDE: also not above the last one", "above the first, not above the last", """
            thing 1 1 5 | step 0 9 = 1 | step 0 7 = OUTSIDE | step 0 10 = 2
            """);
        script.test(3, "OUTSIDE: also not above the last one", "above that of another THING", """
            thing 1 1 50 | thing 1 1 5 | step 1 6 = 1 | step 0 7 = OUTSIDE
            """);
        script.test(3, "rising (0 to 99), numbered from 0 on.", "the highest", """
            thing 1 1 98 | step 0 100 = OUTSIDE | step 0 MAX = OUTSIDE | step 0 99 = 1
            step 0 99 = OUTSIDE | step 0 100 = OUTSIDE | told 11 = 99 | told 12 = NONE
            """);
        script.test(3, "rising (0 to 99), numbered from 0 on.", "the lowest", """
            thing 1 1 0 | step 0 -1 = OUTSIDE | step 0 MIN = OUTSIDE | step 0 0 = OUTSIDE | step 0 1 = 1
            """);
        script.test(3, "rising (0 to 99), numbered from 0 on.", "none is above 99", """
            thing 1 1 99 | step 0 99 = OUTSIDE | step 0 100 = OUTSIDE | told 5 = 1
            """);
        script.test(3, "FULL", "the third is the last one", """
            thing 1 1 5 | step 0 6 = 1 | step 0 7 = 2 | step 0 8 = FULL | step 0 99 = FULL | told 12 = 7 | told 5 = 3
            thing 1 1 5 | step 1 6 = 1 | told 13 = 5 | told 14 = 6
            """);
        script.test(3, "STEPS of price, 3 at most", "FULL is not told of a price that is OUTSIDE", """
            thing 1 1 5 | step 0 6 | step 0 7 | step 0 7 = OUTSIDE | step 0 100 = OUTSIDE | step 0 8 = FULL
            """);
    }

    private void set() {
        script.test(4, "COST (what = 0)", "0 to 99, which it was", """
            thing 7 8 1 | set 0 0 0 -1 = OUTSIDE | set 0 0 0 100 = OUTSIDE | set 0 0 0 MIN = OUTSIDE
            set 0 0 0 MAX = OUTSIDE | set 0 0 0 0 = 7 | set 0 0 0 99 = 0 | set 0 0 0 5 = 99
            set 1 0 0 100 = OUTSIDE | set 1 0 0 -1 = OUTSIDE | set 1 0 0 99 = 8 | set 1 0 0 0 = 99 | set 0 0 0 5 = 5
            """);
        script.test(4, "HEAD (1)", "0 to 3, which it was", """
            thing 7 8 1 | set 0 0 1 -1 = OUTSIDE | set 0 0 1 4 = OUTSIDE | set 0 0 1 MIN = OUTSIDE
            set 0 0 1 MAX = OUTSIDE | set 0 0 1 0 = 3 | set 0 0 1 3 = 0 | set 0 0 1 2 = 3
            set 1 0 1 4 = OUTSIDE | set 1 0 1 -1 = OUTSIDE | set 1 0 1 1 = 3 | set 1 0 1 3 = 1 | set 0 0 1 3 = 2
            """);
        script.test(4, "the STEP (2) of a THING in a SHOP", "which it was", """
            thing 7 8 1 | step 0 2 | step 0 3 | set 0 0 2 2 = 0 | set 0 0 2 1 = 2 | set 0 0 2 0 = 1
            set 1 0 2 1 = 0 | set 1 0 2 2 = 1 | set 0 0 2 0 = 0 | row 1 = 2 | row 0 = 0
            """);
        script.test(4, "UNKNOWN: also no such STEP", "of one, two, three", """
            thing 7 8 1 | set 0 0 2 1 = UNKNOWN | set 0 0 2 -1 = UNKNOWN | set 0 0 2 0 = 0
            step 0 2 | set 0 0 2 2 = UNKNOWN | set 0 0 2 1 = 0 | step 0 3 | set 0 0 2 3 = UNKNOWN | set 0 0 2 2 = 1
            set 0 0 2 MIN = UNKNOWN | set 0 0 2 MAX = UNKNOWN | set 0 0 2 100 = UNKNOWN | set 1 0 2 3 = UNKNOWN
            """);
        script.test(4, "UNKNOWN: also no such STEP", "each THING has its own STEPS", """
            thing 7 8 1 | step 0 2 | thing 7 8 1 | set 0 1 2 1 = UNKNOWN | set 0 0 2 1 = 0
            """);
        script.test(4, "UNKNOWN", "no such SHOP, no such THING, whatever is set", """
            thing 7 8 1 | set -1 0 0 1 = UNKNOWN | set 2 0 1 1 = UNKNOWN | set 0 -1 0 1 = UNKNOWN
            set 1 1 1 1 = UNKNOWN
            set 0 1 2 0 = UNKNOWN | set 2 0 2 0 = UNKNOWN | set 0 1 3 0 = UNKNOWN | set 2 0 -1 0 = UNKNOWN
            """);
        script.test(4, "OUTSIDE", "what is neither of the three", """
            thing 7 8 1 | set 0 0 -1 0 = OUTSIDE | set 0 0 3 0 = OUTSIDE | set 1 0 MIN 0 = OUTSIDE
            set 1 0 MAX 0 = OUTSIDE | set 0 0 3 100 = OUTSIDE
            """);
        script.test(4, "which it was", "each SHOP and THING has its own", """
            times 4 thing 7 8 1 = 3 | set 0 2 0 50 = 7 | set 0 1 0 1 = 7 | set 0 3 0 1 = 7 | set 1 2 0 1 = 8
            set 0 2 1 1 = 3 | set 0 1 1 2 = 3 | set 0 3 1 2 = 3 | set 1 2 1 2 = 3 | set 0 2 0 50 = 50
            set 0 2 1 1 = 1
            """);
    }

    private void show() {
        script.test(5, "OUTSIDE: bits 0 to 15", "the lowest and the highest", """
            show 0 -1 = OUTSIDE | show 0 16 = OUTSIDE | show 0 MIN = OUTSIDE | show 0 MAX = OUTSIDE
            show 1 16 = OUTSIDE
            show 1 -1 = OUTSIDE | show 0 0 = 0 | show 0 15 = 0 | show 0 1 = 15 | show 1 15 = 0 | show 1 0 = 15
            """);
        script.test(5, "WINDOW of a SHOP: which it was.", "each SHOP has its own", """
            show 0 9 = 0 | show 1 6 = 0 | show 0 3 = 9 | show 1 12 = 6 | show 0 0 = 3 | show 1 0 = 12
            """);
        script.test(5, "UNKNOWN", "no such SHOP", "show -1 1 = UNKNOWN | show 2 1 = UNKNOWN | show 2 -1 = UNKNOWN");
        script.test(5, "WINDOW: THINGS that a SHOP shows (bits; none at first).", "THINGS that are not there yet", """
            sort 1 0 9 0 | write 0 b1<9~9 = 1 | show 0 2 = 0 | thing 1 1 1 | thinks 0 0 = 0 | thing 1 1 4
            thinks 0 0 = 5
            show 0 13 = 2 | thinks 0 0 = 0
            """);
    }

    private void sort() {
        script.test(6, "how many (1 to 99)", "the least and the most", """
            sort 0 5 5 0 = OUTSIDE | sort 100 5 5 0 = OUTSIDE | sort -1 5 5 0 = OUTSIDE | sort MIN 5 5 0 = OUTSIDE
            sort MAX 5 5 0 = OUTSIDE | told 1 = 0 | sort 1 5 5 0 = 0 | sort 99 5 5 0 = 1
            change 0 0 50 = 1 | change 1 0 50 = 99
            """);
        script.test(6, "how FAR each SHOP is for them (0 to 99)", "SHOP 0", """
            sort 5 -1 5 0 = OUTSIDE | sort 5 100 5 0 = OUTSIDE | sort 5 MIN 5 0 = OUTSIDE | sort 5 MAX 5 0 = OUTSIDE
            told 1 = 0 | sort 5 0 5 0 = 0 | sort 5 99 5 0 = 1 | change 0 1 50 = 0 | change 1 1 50 = 99
            """);
        script.test(6, "how FAR each SHOP is for them (0 to 99)", "SHOP 1", """
            sort 5 5 -1 0 = OUTSIDE | sort 5 5 100 0 = OUTSIDE | sort 5 5 MIN 0 = OUTSIDE | sort 5 5 MAX 0 = OUTSIDE
            told 1 = 0 | sort 5 5 0 0 = 0 | sort 5 5 99 0 = 1 | change 0 2 50 = 0 | change 1 2 50 = 99
            """);
        script.test(6, "WAY: 0 to one SHOP, 1 to one or to both, 2 to one, for THINGS below that SHOP's COST alone.",
            "no other", """
            sort 5 5 5 -1 = OUTSIDE | sort 5 5 5 3 = OUTSIDE | sort 5 5 5 MIN = OUTSIDE | sort 5 5 5 MAX = OUTSIDE
            told 1 = 0 | sort 5 5 5 0 = 0 | sort 5 5 5 1 = 1 | sort 5 5 5 2 = 2
            change 0 3 1 = 0 | change 1 3 0 = 1 | change 2 3 0 = 2
            """);
        script.test(6, "A SORT (with an empty LIST): its number.", "nothing is on it", """
            sort 5 5 5 0 = 0 | item 0 0 0 = NONE | item 0 1 1 = NONE | item 0 2 2 = NONE | item 0 3 0 = NONE
            thing 0 0 1 | goes 0 = 0 | thinks 0 0 = -5 | home 0 0 0 0 1 0 = UNKNOWN | sort 1 1 1 1 = 1
            """);
        script.test(6, "FULL", "the fifth and the sixth", """
            sort 1 0 0 0 = 0 | sort 1 0 0 0 = 1 | sort 1 0 0 0 = 2 | sort 1 0 0 0 = 3 | sort 9 8 7 2 = 4
            sort 1 0 0 0 = FULL | told 1 = 5 | change 4 0 1 = 9 | change 4 1 1 = 8 | change 4 2 1 = 7
            change 4 3 1 = 2
            """);
        script.test(6, "OUTSIDE", "also when there are five", """
            times 5 sort 1 0 0 0 = 4 | sort 0 0 0 0 = OUTSIDE | sort 1 0 0 3 = OUTSIDE | sort 1 0 0 0 = FULL
            """);
        script.test(6, "A SORT (with an empty LIST)", "the LISTS of those before stay", """
            sort 1 0 0 0 | write 0 a1<1;b1<2;c1<3;d1<4 = 4 | sort 1 0 0 0 | write 1 a2<1;b2<2;c2<3;d2<4 = 4
            sort 1 0 0 0 | sort 1 0 0 0
            item 0 0 0 = 1 | item 0 1 1 = 2 | item 0 2 0 = 1 | item 0 3 1 = 4 | item 1 0 0 = 2 | item 1 1 0 = 2
            item 1 2 0 = 2
            item 1 3 0 = 2 | item 2 0 0 = NONE | item 3 3 0 = NONE
            """);
        script.test(6, "A SORT (with an empty LIST)", "also where another one was, that is not restored", """
            image 0 | sort 9 9 9 2 = 0 | write 0 a1<9;d2<8~7 = 2 | change 0 4 6 | restore 0 | sort 1 1 1 1 = 0
            item 0 0 0 = NONE | item 0 3 0 = NONE | change 0 4 0 = 0 | change 0 3 0 = 1
            """);
    }

    private void change() {
        script.test(7, "0 how many", "1 to 99", """
            sort 5 6 7 1 | change 0 0 0 = OUTSIDE | change 0 0 100 = OUTSIDE | change 0 0 MIN = OUTSIDE
            change 0 0 MAX = OUTSIDE | change 0 0 1 = 5 | change 0 0 99 = 1 | change 0 0 5 = 99
            """);
        script.test(7, "1 FAR of SHOP 0", "0 to 99", """
            sort 5 6 7 1 | change 0 1 -1 = OUTSIDE | change 0 1 100 = OUTSIDE | change 0 1 MIN = OUTSIDE
            change 0 1 MAX = OUTSIDE | change 0 1 0 = 6 | change 0 1 99 = 0 | change 0 1 5 = 99 | change 0 2 5 = 7
            """);
        script.test(7, "2 of SHOP 1", "0 to 99", """
            sort 5 6 7 1 | change 0 2 -1 = OUTSIDE | change 0 2 100 = OUTSIDE | change 0 2 MIN = OUTSIDE
            change 0 2 MAX = OUTSIDE | change 0 2 0 = 7 | change 0 2 99 = 0 | change 0 2 5 = 99 | change 0 1 5 = 6
            """);
        script.test(7, "3 WAY", "0 to 2", """
            sort 5 6 7 1 | change 0 3 -1 = OUTSIDE | change 0 3 3 = OUTSIDE | change 0 3 MIN = OUTSIDE
            change 0 3 MAX = OUTSIDE | change 0 3 0 = 1 | change 0 3 2 = 0 | change 0 3 1 = 2
            """);
        script.test(7, "4 SHELF of a SORT: which it was.", "0 to 6", """
            sort 5 6 7 1 | change 0 4 -1 = OUTSIDE | change 0 4 7 = OUTSIDE | change 0 4 MIN = OUTSIDE
            change 0 4 MAX = OUTSIDE | change 0 4 6 = 0 | change 0 4 0 = 6 | change 0 4 3 = 0
            """);
        script.test(7, "UNKNOWN", "no such SORT, whatever is changed", """
            change 0 0 1 = UNKNOWN | sort 5 6 7 1 | change 1 0 1 = UNKNOWN | change -1 1 1 = UNKNOWN
            change 5 4 1 = UNKNOWN
            change 1 5 1 = UNKNOWN | change 1 4 7 = UNKNOWN
            """);
        script.test(7, "OUTSIDE", "what is neither of the five", """
            sort 5 6 7 1 | change 0 -1 1 = OUTSIDE | change 0 5 1 = OUTSIDE | change 0 MIN 1 = OUTSIDE
            change 0 MAX 1 = OUTSIDE
            """);
        script.test(7, "which it was", "each SORT has its own", """
            sort 5 6 7 1 | sort 15 16 17 2 | change 0 0 9 | change 0 1 9 | change 0 2 9 | change 0 3 0 | change 0 4 4
            change 1 0 1 = 15 | change 1 1 1 = 16 | change 1 2 1 = 17 | change 1 3 1 = 2 | change 1 4 1 = 0
            change 0 0 9 = 9 | change 0 1 9 = 9 | change 0 2 9 = 9 | change 0 3 0 = 0 | change 0 4 4 = 4
            """);
    }

    private void say() {
        script.test(8, "(codes 33 to 126)", "the lowest and the highest", """
            say 32 = OUTSIDE | say 127 = OUTSIDE | say 0 = OUTSIDE | say -1 = OUTSIDE | say MIN = OUTSIDE
            say MAX = OUTSIDE
            told 3 = 0 | say 33 = 1 | say 126 = 2 | say 32 = OUTSIDE | told 3 = 2
            """);
        script.test(8, "(codes 33 to 126)", "codes that are such but for what is above 8 or 16 bits", """
            say 353 = OUTSIDE | say 65633 = OUTSIDE | say -159 = OUTSIDE | told 3 = 0
            """);
        script.test(8, "A LIST is a text of up to 40 signs", "the 40th and the 41st", """
            times 39 say 97 = 39 | say 98 = 40 | say 97 = FULL | told 3 = 40 | say 97 = FULL | wipe = 40 | say 97 = 1
            """);
        script.test(8, "A sign more: how many.", "signs that can not stand there are taken, too", """
            say 33 = 1 | fault = 0 | say 33 = 2 | say 97 = 3 | fault = 0 | told 3 = 3
            """);
        script.test(8, "OUTSIDE",
            "also when there are 40", "times 40 say 97 = 40 | say 127 = OUTSIDE | say 32 = OUTSIDE");
        script.test(8, "FULL", "also of a text without a FAULT before", """
            says d3<99~99;c3<99~99;b3<99~99;a3<99~99 = 35 | fault = NONE | times 5 say 33 = 40 | fault = 35
            say 33 = FULL | fault = 35
            """);
    }

    private void wipe() {
        script.test(9, "Signs go: how many there were.", "none, one, forty", """
            wipe = 0 | wipe = 0 | say 97 = 1 | wipe = 1 | told 3 = 0 | wipe = 0 | times 40 say 97 = 40 | wipe = 40
            told 3 = 0 | fault = 0 | wipe = 0
            """);
        script.test(9, "Signs go", "no sign of before is read again", """
            says a1<57~9 = 7 | wipe = 7 | says b2 = 2 | fault = 2 | says <3 = 4 | fault = NONE
            """);
        script.test(9, "Signs go", "LISTS stay", """
            sort 1 0 0 0 | write 0 a1<57~9 = 1 | says b1 = 2 | wipe = 2 | item 0 0 2 = 9 | item 0 1 0 = NONE
            """);
    }

    private void faultOfOneItem() {
        script.test(10, "the number of signs, if more must come", "of one ITEM", """
            fault = 0 | say 97 = 1 | fault = 1 | say 49 = 2 | fault = 2 | say 60 = 3 | fault = 3
            say 53 = 4 | fault = NONE | say 55 = 5 | fault = NONE | say 126 = 6 | fault = 6
            say 48 = 7 | fault = NONE | say 57 = 8 | fault = NONE | say 59 = 9 | fault = 9 | say 98 = 10 | fault = 10
            """);
        isFault("a letter a to d (no THING twice;", 0, "!", "1", "<", ";", "~", "`", "e", "A", "D", "z", "~1", ";a1<1");
        isFault("a letter a to d (no THING twice;", 1, "a", "b", "c", "d");
        isFault("a digit 1 to 3 (how many)", 1, "a0", "a4", "a9", "a/", "a<", "aa", "ab", "a;", "a~", "a!", "d0<5");
        isFault("a digit 1 to 3 (how many)", 2, "a1", "a2", "a3", "d1", "d3");
        isFault("a <,", 2, "a1;", "a1=", "a1>", "a11", "a1~", "a1a", "a15");
        isFault("a <,", 3, "a1<", "a3<", "d2<");
    }

    private void faultOfDigits() {
        isFault("1 or 2 digits (WORTH of one)", 3, "a1</", "a1<:", "a1<<", "a1<~", "a1<;", "a1<a", "a1<-5");
        isFault("1 or 2 digits (WORTH of one)", -6, "a1<0", "a1<9", "a1<00", "a1<09", "a1<90", "a1<99");
        isFault("1 or 2 digits (WORTH of one)", 4, "a1<5/", "a1<5:", "a1<5<", "a1<5a", "a1<5!", "a1<5b2<7");
        isFault("1 or 2 digits (WORTH of one)", 5, "a1<000", "a1<100", "a1<55/", "a1<55:", "a1<55<", "a1<55b");
        isFault("and perhaps a ~ and 1 or 2 digits", 5, "a1<5~", "a1<5~/", "a1<5~:", "a1<5~~", "a1<5~;", "a1<5~a");
        isFault("and perhaps a ~ and 1 or 2 digits", -6, "a1<5~0", "a1<5~9", "a1<5~00", "a1<5~99", "a1<55~9", "a1<55~99");
        isFault("and perhaps a ~ and 1 or 2 digits", 6, "a1<5~5/", "a1<5~5:", "a1<5~5~", "a1<5~5<", "a1<55~", "a1<55~a");
        isFault("and perhaps a ~ and 1 or 2 digits", 7, "a1<5~555", "a1<5~55~", "a1<5~55a", "a1<55~5~");
        isFault("and perhaps a ~ and 1 or 2 digits", 8, "a1<55~555", "a1<55~55~", "a1<55~55:");
    }

    private void faultOfSeveralItems() {
        isFault("ITEMS with a ; between two:", -6, "a1<5;b1<5", "b1<5;a1<5", "d1<55~5;b2<5~55;c3<1", "a1<5~5;b1<5");
        isFault("ITEMS with a ; between two:", 5, "a1<5;", "a1<5;;", "a1<5;1", "a1<5;e", "a1<5;<");
        isFault("ITEMS with a ; between two:", 4, "a1<5,b1<5", "a1<5:b1<5");
        isFault("(a letter that was;", 5, "a1<5;a", "a1<5;a1<6", "d1<5;d");
        isFault("(a letter that was;", 10, "a1<5;b1<5;a", "a1<5;b1<5;b", "d1<5;c1<5;d1<5");
        isFault("(a letter that was;", 11, "a1<5;b1<5;c", "d1<5;b1<5;a");
        isFault("(a letter that was;", 15, "a1<5;b1<5;c1<5;a", "a1<5;b1<5;c1<5;b", "a1<5;b1<5;c1<5;c");
        isFault("a ; when all four were)", 19, "a1<5;b1<5;c1<5;d1<5;", "d1<5;c1<5;b1<5;a1<5;;", "b1<5;a1<5;d1<5;c1<5;a");
        isFault("a ; when all four were)", 15, "a1<5;b1<5;c1<5;", "d1<5;b1<5;c1<5;");
        isFault("a ; when all four were)", 21, "a1<5;b1<5;c1<5;d1<5~5;", "a1<5;b1<5;c1<55;d1<55;");
        isFault("a ; when all four were)", 35, "a3<99~99;b3<99~99;c3<99~99;d3<99~99;",
            "a3<99~99;b3<99~99;c3<99~99;d3<99~99;a1<1", "a3<99~99;b3<99~99;c3<99~99;d3<99~999");
        isFault("a ; when all four were)", -6, "a3<99~99;b3<99~99;c3<99~99;d3<99~99", "a1<5;b1<5;c1<5;d1<5");
        isFault("THE FAULT: the place (from 0 on) of the first sign that can not stand there", 2, "a1!!", "a1!<5", "a1!", "a1;a");
        isFault("THE FAULT: the place (from 0 on) of the first sign that can not stand there", 0,
            "!!!!!!!!!!!!!!!!!!!!!!!!!!!!!!!!!!!!!!!!", "xa1<5");
        isFault("THE FAULT: the place (from 0 on) of the first sign that can not stand there", 4,
            "a1<5aaaaaaaaaaaaaaaaaaaaaaaaaaaaaaaaaaaa");
        script.test(10, "THE FAULT; NONE.", "it is asked again and again", """
            says a1<5;a = 6 | fault = 5 | fault = 5 | told 3 = 6 | wipe = 6 | says a1<5 = 4 | fault = NONE
            fault = NONE
            told 3 = 4
            """);
    }

    /** Texts of one and the same FAULT. */
    private void isFault(String words, int due, String... texts) {
        for (String text : texts) {
            script.test(10, words, text, "says " + text + " = " + text.length() + "\nfault = " + due + "\nfault = " + due);
        }
    }

    private void list() {
        script.test(11, "The signs are a SORT's LIST (they are gone then): ITEMS.", "one to four", """
            sort 1 0 0 0 | sort 1 0 0 0 | write 0 a1<5 = 1 | told 3 = 0 | fault = 0 | write 0 b1<5;c2<6 = 2
            write 0 a1<5;b1<5;d1<5 = 3 | write 1 d3<99~99;c3<99~99;b3<99~99;a3<99~99 = 4 | told 3 = 0
            item 0 3 0 = 1 | item 0 2 0 = NONE | item 1 2 0 = 3 | wipe = 0
            """);
        script.test(11, "The signs are a SORT's LIST", "what was on it before is not on it", """
            sort 1 0 0 0 | write 0 a1<5~7;b2<6 = 2 | write 0 a2<8 = 1 | item 0 0 0 = 2 | item 0 0 1 = 8
            item 0 0 2 = NONE
            item 0 1 0 = NONE | item 0 1 1 = NONE | item 0 1 2 = NONE
            """);
        script.test(11, "The signs are a SORT's LIST", "of that SORT alone, of the first and of the last", """
            times 5 sort 1 0 0 0 = 4 | write 4 d1<5 = 1 | item 3 3 0 = NONE | item 4 3 0 = 1 | write 0 a2<7 = 1
            item 0 0 0 = 2 | item 1 0 0 = NONE | item 4 0 0 = NONE | item 4 3 1 = 5
            """);
        script.test(11, "UNKNOWN", "the signs stay", """
            says a1<5 = 4 | list 0 = UNKNOWN | told 3 = 4 | sort 1 0 0 0 | list 1 = UNKNOWN | list -1 = UNKNOWN
            told 3 = 4 | list 0 = 1 | item 0 0 1 = 5
            """);
        script.test(11, "NO: there is a FAULT", "no sign at all", """
            sort 1 0 0 0 | write 0 a1<5 = 1 | list 0 = NO | item 0 0 0 = 1 | wipe = 0 | list 0 = NO
            """);
        script.test(11, "NO: there is a FAULT", "more must come: the signs and the LIST stay", """
            sort 1 0 0 0 | write 0 b2<7~3 = 1 | says a1<5; = 5 | list 0 = NO | told 3 = 5 | fault = 5 | item 0 1 2 = 3
            item 0 0 0 = NONE | says c1<9 = 9 | list 0 = 2 | told 3 = 0 | item 0 2 1 = 9 | item 0 1 0 = NONE
            """);
        script.test(11, "NO: there is a FAULT", "a sign that can not stand there", """
            sort 1 0 0 0 | says a1<5! = 5 | list 0 = NO | told 3 = 5 | list 0 = NO | item 0 0 0 = NONE
            """);
        script.test(11, "those that there are not are on the LIST, too, and wanted from when they are there", "b", """
            sort 2 0 9 0 | write 0 b1<9 = 1 | item 0 1 1 = 9 | thing 0 0 3 | goes 0 = 0 | left 0 = 0 | thing 0 0 4
            goes 0 = 1
            buys 0 0 1 = 1 | left 0 = 8
            """);
    }

    private void item() {
        script.test(12, "0 how many are on its LIST, 1 WORTH, 2 GUESS (NONE: it KNOWS)", "the least and the most", """
            sort 1 0 0 0 | write 0 a1<0~0;b3<99~99;c2<09;d1<7~05 = 4
            item 0 0 0 = 1 | item 0 0 1 = 0 | item 0 0 2 = 0 | item 0 1 0 = 3 | item 0 1 1 = 99 | item 0 1 2 = 99
            item 0 2 0 = 2 | item 0 2 1 = 9 | item 0 2 2 = NONE | item 0 3 0 = 1 | item 0 3 1 = 7 | item 0 3 2 = 5
            """);
        script.test(12, "(a GUESS at its price; else the SORT KNOWS it)", "a GUESS of 0 is a GUESS", """
            thing 0 0 5 | sort 1 0 9 0 | write 0 a1<7~0 = 1 | item 0 0 2 = 0 | thinks 0 0 = 7
            write 0 a1<7 = 1 | item 0 0 2 = NONE | thinks 0 0 = 2
            """);
        script.test(12, "NONE: it is not on the LIST", "whatever is asked", """
            sort 1 0 0 0 | item 0 0 0 = NONE | item 0 0 1 = NONE | item 0 0 2 = NONE | write 0 b1<5~6 = 1
            item 0 0 0 = NONE | item 0 0 1 = NONE | item 0 0 2 = NONE | item 0 1 0 = 1 | item 0 2 0 = NONE
            item 0 3 1 = NONE
            """);
        script.test(12, "Of a SORT and a THING (0 to 3, there or not)", "of THINGS that are not there", """
            sort 1 0 0 0 | write 0 d2<5~6 = 1 | told 0 = 0 | item 0 3 0 = 2 | item 0 0 0 = NONE | item 0 4 0 = UNKNOWN
            item 0 -1 0 = UNKNOWN | item 0 MAX 0 = UNKNOWN | item 0 MIN 0 = UNKNOWN
            """);
        script.test(12, "UNKNOWN", "no such SORT", """
            item 0 0 0 = UNKNOWN | sort 1 0 0 0 | item 0 0 0 = NONE | item 1 0 0 = UNKNOWN | item -1 0 0 = UNKNOWN
            """);
        script.test(12, "OUTSIDE", "what is neither of the three, on the LIST or not", """
            sort 1 0 0 0 | write 0 a1<5 = 1 | item 0 0 -1 = OUTSIDE | item 0 0 3 = OUTSIDE | item 0 0 MIN = OUTSIDE
            item 0 0 MAX = OUTSIDE | item 0 1 -1 = OUTSIDE | item 0 1 3 = OUTSIDE
            """);
    }

    private void law() {
        script.test(13, "LAW (0, 1): which it was.", "0 and 1", """
            law 0 = 0 | law 1 = 0 | told 4 = 1 | law 1 = 1 | told 4 = 1 | law 0 = 1 | told 4 = 0 | law 0 = 0
            """);
        script.test(13, "OUTSIDE", "below and above", """
            law -1 = OUTSIDE | law 2 = OUTSIDE | law MIN = OUTSIDE | law MAX = OUTSIDE | told 4 = 0 | law 1 = 0
            law -1 = OUTSIDE | law 2 = OUTSIDE | told 4 = 1
            """);
    }
}
