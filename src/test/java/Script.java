import java.util.ArrayList;
import java.util.Arrays;
import java.util.List;

/**
 * Tests that are told as small texts: calls with the answers that are due, on a new object. A line, or
 * what stands between two bars, is a call: its name, its numbers, = and the answer, a refusal by its
 * name (LOST and the refusal, if the call answers a long). Where no answer is told, the call must not
 * be refused. "write" says a text and makes it a LIST, "says" says it, "times 3 slip 1" calls thrice.
 *
 * After a call that is refused, and after a mere question, all must be seen as it was before.
 */
final class Script {
    private static final String[] REFUSALS = {"UNKNOWN", "OUTSIDE", "STATE", "FULL", "NO"};
    private static final List<String> CHANGING = List.of("thing", "step", "set", "show", "sort", "change", "say",
        "wipe", "list", "law", "slip", "burn", "image", "restore");
    private static final List<String> LONG = List.of("thinks", "saves", "left", "most", "brings", "home", "chance");
    private static final long LOST = -1000000000000000000L;
    private static final int MOST_CALLS = 512;

    private record Call(String name, int[] numbers, String due) { }

    private final Due due;
    private final Document document;

    Script(Due due, Document document) {
        this.due = due;
        this.document = document;
    }

    /** The promise (0: terms), words of the document that are put to the test, what is tried, the calls. */
    void test(int promise, String words, String tried, String text) {
        document.quote(promise, words);
        String name = promise + ": \"" + words + "\", " + tried;
        List<Call> calls = read(text);
        Both both = new Both(name);
        // what is seen ahead of the call, where the one before has left it as it was
        String seen = null;
        for (int i = 0; i < calls.size(); i++) {
            Call call = calls.get(i);
            long got = both.ask(call.name, call.numbers);
            String told = name + ": call " + (i + 1) + ", " + call.name + Arrays.toString(call.numbers);
            isAnswer(told, call, got);
            if (isRefusal(call.name, got) || !CHANGING.contains(call.name)) {
                String before = seen == null ? see(calls, i) : seen;
                seen = see(calls, i + 1);
                due.is(told + " changed what was\n" + before + "to\n" + seen + "which", before.equals(seen) ? 0 : 1, 0);
            } else {
                seen = null;
            }
        }
        due.is(name + ": the oracle answers otherwise, which", both.isWrong() ? 1 : 0, 0);
    }

    private void isAnswer(String told, Call call, long got) {
        if (call.due == null) {
            due.is(told + " must not be refused, and", isRefusal(call.name, got) ? got : 0, 0);
        } else {
            due.is(told, got, answerOf(call));
        }
    }

    private static boolean isRefusal(String name, long answer) {
        long refusal = LONG.contains(name) ? answer - LOST : answer;
        return refusal < 0 && refusal >= -REFUSALS.length;
    }

    private static long answerOf(Call call) {
        for (int i = 0; i < REFUSALS.length; i++) {
            if (REFUSALS[i].equals(call.due)) {
                return -1 - i + (LONG.contains(call.name) ? LOST : 0);
            }
        }
        return call.due.equals("NONE") ? -6 : Long.parseLong(call.due);
    }

    /** What is seen of a new object after the first calls. */
    private static String see(List<Call> calls, int many) {
        if (many + Sight.MOST_CALLS > MOST_CALLS) {
            throw new IllegalStateException("a script is too long: " + many + " calls and a look");
        }
        SugarBelow x = new SugarBelow();
        for (Call call : calls.subList(0, many)) {
            Both.askClass(x, call.name, call.numbers);
        }
        return Sight.of(x);
    }

    private static List<Call> read(String text) {
        List<Call> calls = new ArrayList<>();
        for (String part : text.split("\n| \\| ")) {
            if (!part.isBlank()) {
                readCall(part.trim(), calls);
            }
        }
        return calls;
    }

    private static void readCall(String part, List<Call> calls) {
        int mark = part.indexOf(" = ");
        String answer = mark < 0 ? null : part.substring(mark + 3).trim();
        String[] words = (mark < 0 ? part : part.substring(0, mark)).trim().split(" +");
        switch (words[0]) {
            case "write":
                addSigns(words[2], null, calls);
                calls.add(new Call("list", new int[] {number(words[1])}, answer));
                break;
            case "says":
                addSigns(words[1], answer, calls);
                break;
            case "times":
                int many = number(words[1]);
                for (int i = 0; i < many; i++) {
                    calls.add(new Call(words[2], numbers(words, 3), i == many - 1 ? answer : null));
                }
                break;
            default:
                calls.add(new Call(words[0], numbers(words, 1), answer));
        }
    }

    private static void addSigns(String signs, String answer, List<Call> calls) {
        for (int i = 0; i < signs.length(); i++) {
            calls.add(new Call("say", new int[] {signs.charAt(i)}, i == signs.length() - 1 ? answer : null));
        }
    }

    private static int[] numbers(String[] words, int from) {
        int[] numbers = new int[words.length - from];
        for (int i = 0; i < numbers.length; i++) {
            numbers[i] = number(words[from + i]);
        }
        return numbers;
    }

    private static int number(String word) {
        switch (word) {
            case "MIN":
                return Integer.MIN_VALUE;
            case "MAX":
                return Integer.MAX_VALUE;
            default:
                return Integer.parseInt(word);
        }
    }
}
