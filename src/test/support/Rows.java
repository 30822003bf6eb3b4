import java.lang.reflect.InvocationTargetException;
import java.lang.reflect.Method;
import java.util.ArrayList;
import java.util.List;

/**
 * Calls on one new object, told as rows of text:
 * "pad TEXT" wipes and says the signs, "board TEXT" lays them too, all else is a call and the answer that is due,
 * as in "man -1|6 0 = UNKNOWN" (each of the numbers between bars is tried). An answer is a number, a constant's name,
 * a move ("a1b3") or cells as bits ("{a1 e5}").
 */
class Rows {
    // What the document says of an object is said for so many calls.
    static final int MOST_CALLS = 512;
    static int wrong = 0;

    final AgingMen x = new AgingMen();
    private final String sentence;
    private int calls = 0;

    Rows(String sentence) {
        this.sentence = sentence;
    }

    static Rows holds(String sentence, String... rows) {
        return new Rows(sentence).and(rows);
    }

    Rows and(String... rows) {
        for (String row : rows) {
            if (row.equals("pad") || row.startsWith("pad ")) {
                pad(row.substring(Math.min(row.length(), 4)));
            } else if (row.startsWith("board ")) {
                board(row.substring(6));
            } else {
                String[] sides = row.split(" = ");
                if (sides.length != 2) {
                    complain("'" + row + "' tells no answer");
                } else {
                    for (String call : spread(sides[0])) {
                        due(call, answer(sides[1]));
                    }
                }
            }
        }
        return this;
    }

    /** The calls that one with bars tells. */
    static List<String> spread(String call) {
        List<String> out = new ArrayList<>();
        int bar = call.indexOf('|');
        if (bar < 0) {
            out.add(call);
            return out;
        }
        int start = call.lastIndexOf(' ', bar) + 1;
        int end = call.indexOf(' ', bar) < 0 ? call.length() : call.indexOf(' ', bar);
        for (String one : call.substring(start, end).split("\\|")) {
            out.addAll(spread(call.substring(0, start) + one + call.substring(end)));
        }
        return out;
    }

    void due(String call, int want) {
        int got = ask(call);
        if (got != want) {
            complain(call + " answered " + got + ", due is " + want);
        }
    }

    void pad(String text) {
        ask("wipe");
        for (int i = 0; i < text.length(); i++) {
            due("say " + (int) text.charAt(i), i + 1);
        }
    }

    void board(String text) {
        pad(text);
        due("lay", text.length() / 4);
    }

    void complain(String what) {
        wrong++;
        System.out.println("[" + sentence + "] " + what);
    }

    /** The call's answer, whatever it is. */
    int ask(String call) {
        calls++;
        if (calls == MOST_CALLS + 1) {
            complain("the test makes more calls than the document speaks of");
        }
        String[] words = call.split(" ");
        for (Method method : AgingMen.class.getMethods()) {
            if (method.getName().equals(words[0]) && method.getParameterCount() == words.length - 1) {
                return invoke(method, words);
            }
        }
        throw new IllegalArgumentException(call);
    }

    private int invoke(Method method, String[] words) {
        Object[] numbers = new Object[words.length - 1];
        for (int i = 0; i < numbers.length; i++) {
            numbers[i] = answer(words[i + 1]);
        }
        try {
            return (Integer) method.invoke(x, numbers);
        } catch (IllegalAccessException | InvocationTargetException thrown) {
            throw new IllegalStateException(String.join(" ", words), thrown);
        }
    }

    int calls() {
        return calls;
    }

    static int answer(String told) {
        switch (told) {
            case "UNKNOWN": return -1;
            case "OUTSIDE": return -2;
            case "STATE": return -3;
            case "FULL": return -4;
            case "NO": return -5;
            case "NONE": return -6;
            case "LEAST": return Integer.MIN_VALUE;
            case "GREATEST": return Integer.MAX_VALUE;
            default: break;
        }
        if (told.matches("([a-e][1-5]){2}")) {
            return 100 * cell(told) + cell(told.substring(2));
        }
        if (!told.startsWith("{")) {
            return Integer.parseInt(told);
        }
        int bits = 0;
        for (int i = 1; i + 1 < told.length(); i += 3) {
            bits |= 1 << cell(told.substring(i));
        }
        return bits;
    }

    static int cell(String told) {
        return told.charAt(0) - 'a' + 5 * (told.charAt(1) - '1');
    }

    static String text(int cell) {
        return "" + (char) ('a' + cell % 5) + (char) ('1' + cell / 5);
    }

    static void end(String good) {
        System.out.println(wrong == 0 ? good : wrong + " answers are not as due");
        if (wrong != 0) {
            System.exit(1);
        }
    }
}
