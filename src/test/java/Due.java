/** Counts and prints the answers that are not as due; shared by the tests. */
final class Due {
    private int asked;
    private int wrong;

    /** One answer: what was called, what it answered, what was due. */
    void is(String call, long got, long want) {
        asked++;
        if (got != want) {
            wrong++;
            System.out.println(call + " answered " + got + ", due is " + want);
        }
    }

    /** To be called at a test's end: its exit code tells whether all was as due. */
    void end() {
        System.out.println(asked + " answers, " + wrong + " of them wrong");
        if (wrong != 0 || asked == 0) {
            System.exit(1);
        }
    }

    /** Says a text, sign by sign, and makes it a SORT's LIST. */
    static int write(SugarBelow town, int sort, String text) {
        say(town, text);
        return town.list(sort);
    }

    static int say(SugarBelow town, String text) {
        int last = 0;
        for (int i = 0; i < text.length(); i++) {
            last = town.say(text.charAt(i));
        }
        return last;
    }
}
