import java.util.Random;

/** Texts that are drawn for the tests against the oracle. */
final class Draw {
    private Draw() {
    }

    /** A LIST; now and then with a FAULT. */
    static String list(Random random, int wide) {
        StringBuilder text = rightList(random, wide, 1 + random.nextInt(4));
        if (random.nextInt(12) == 0) {
            text.setCharAt(random.nextInt(text.length()), "abcd0159<~;!e".charAt(random.nextInt(13)));
        }
        if (random.nextInt(12) == 0) {
            text.append("abcd0159<~;!e".charAt(random.nextInt(13)));
        }
        if (random.nextInt(12) == 0) {
            text.setLength(random.nextInt(text.length()));
        }
        return text.toString();
    }

    static StringBuilder rightList(Random random, int wide, int items) {
        StringBuilder text = new StringBuilder();
        int first = random.nextInt(4);
        int by = random.nextBoolean() ? 1 : 3;
        for (int i = 0; i < items; i++) {
            text.append(i == 0 ? "" : ";").append((char) ('a' + (first + by * i) % 4)).append(1 + random.nextInt(3));
            text.append('<').append(Math.min(99, random.nextInt(2 * wide)));
            if (random.nextInt(3) == 0) {
                text.append('~').append(random.nextInt(wide));
            }
        }
        return text;
    }
}
