import java.util.ArrayList;
import java.util.List;

// "Calls that are refused answer ... They change nothing": in many states, each call that is refused there is made on one
// of two like objects, and all that can be asked of the two is the same afterwards. So it is for calls that only ask.
public final class RefusalBounds extends Rows {
    private static final String SIX = "0a103e501b102c104d505c50";
    private static final String BAD = "-1|LEAST|GREATEST";

    private static final String[] OUTSIDE_EVERYWHERE = {
        "say 32|127|-33|0|" + BAD, "fault 2|" + BAD, "law " + BAD + " 5 8", "law 2 1|-1|10 8", "law 2 5 4|10|" + BAD,
        "law 9 9 8", "man 0 3|" + BAD, "state 2|" + BAD, "judge 2|" + BAD, "reach 2|" + BAD, "youth 2|" + BAD + " 0",
        "youth 0 2|" + BAD, "solve 3|" + BAD, "keys 0|3|" + BAD + " 0", "keys 0 -1", "next 5|" + BAD, "drawn 10000|" + BAD + " 0",
        "drawn 0 2|" + BAD, "mirror 0|4|" + BAD, "image 2|" + BAD, "restore 2|" + BAD, "told 5|9|16|19|26|" + BAD};
    private static final String[] UNKNOWN_EVERYWHERE = {
        "man 6|" + BAD + " 0", "man 6 3", "on 25|31|" + BAD, "even 6|" + BAD, "booked 8|" + BAD + " 0", "booked 8 22"};
    private static final String[] ASKING = {
        "fault 0|1", "man 0|1|3 0|1|2", "on 0|12|24", "state 0|1", "judge 0|1", "moves -1|0|1|30|-2", "reach 0|1", "youth 0|1 0|1",
        "stands", "solve 0|1|2", "keys 1|2 -1|0|30", "even 0|1|3", "booked 0 0|1|10|21|22", "next 0|1|2|3|4", "drawn 0|9999 0|1",
        "like", "told 0|1|4|10|25"};

    private RefusalBounds() {
        super("");
    }

    /** One state: the rows that lead to it, and the calls that are refused there and not everywhere. */
    private static void state(String name, String[] rows, String... refusedHere) {
        List<Integer> want = all(holds(name, rows));
        for (String calls : OUTSIDE_EVERYWHERE) {
            changesNothing(name, rows, want, calls, -2);
        }
        for (String calls : UNKNOWN_EVERYWHERE) {
            changesNothing(name, rows, want, calls, -1);
        }
        for (String calls : refusedHere) {
            String[] sides = calls.split(" = ");
            changesNothing(name, rows, want, sides[0], answer(sides[1]));
        }
        for (String calls : ASKING) {
            for (String call : spread(calls)) {
                Rows other = holds(name, rows);
                other.ask(call);
                compare(name + ", asked " + call, all(other), want);
            }
        }
    }

    private static void changesNothing(String name, String[] rows, List<Integer> want, String calls, int answer) {
        for (String call : spread(calls)) {
            Rows other = holds(name + ", refused " + call, rows);
            other.due(call, answer);
            compare(name + ", refused " + call, all(other), want);
        }
    }

    private static void compare(String name, List<Integer> got, List<Integer> want) {
        if (!got.equals(want)) {
            wrong++;
            System.out.println("[They change nothing] " + name + ": " + got + ", due is " + want);
        }
    }

    /** All that can be asked, the images at the end. */
    private static List<Integer> all(Rows x) {
        List<Integer> out = new ArrayList<>();
        kept(x, out);
        String[] calls = {"fault 0|1", "judge 0|1", "next 0|1|2|3|4", "like", "moves -1|0|1", "stands", "solve 0|1|2", "drawn 7 0|1"};
        for (String each : calls) {
            add(x, out, each);
        }
        // The signs themselves can only be seen in what they become.
        add(x, out, "play");
        add(x, out, "lay");
        add(x, out, "told 0|10|11|12|13|14|15|20|21|22|23|24|25");
        for (int image = 0; image < 2; image++) {
            int restored = x.ask("restore " + image);
            out.add(restored);
            if (restored == 1) {
                kept(x, out);
            }
        }
        return out;
    }

    private static void kept(Rows x, List<Integer> out) {
        add(x, out, "told 0|1|2|3|4|10|11|12|13|14|15|20|21|22|23|24|25");
        add(x, out, "state 0|1");
        int games = x.ask("told 1");
        for (int game = 0; game < games; game++) {
            add(x, out, "booked " + game + " 0|1");
            int moves = out.get(out.size() - 2);
            for (int k = 0; k < moves; k++) {
                out.add(x.ask("booked " + game + " " + (10 + k)));
            }
        }
    }

    private static void add(Rows x, List<Integer> out, String calls) {
        for (String call : spread(calls)) {
            out.add(x.ask(call));
        }
    }

    private static String[] join(String[] first, String... then) {
        String[] out = new String[first.length + then.length];
        System.arraycopy(first, 0, out, 0, first.length);
        System.arraycopy(then, 0, out, first.length, then.length);
        return out;
    }

    public static void main(String[] args) {
        String[] busy = {"board 0b263d574c36!", "law 0 0 8 = 258", "pad d5d4b2b3", "book = 0", "image 0 = 1", "pad d5d4", "play = 1",
            "pad b2b3", "book = 1", "law 0 0 9 = 8", "book = 2", "image 1 = 1", "board 0a173d584c37", "law 0 5 8 = 9", "pad a1b1", "book = 3"};
        String twelve = "a1b1d5d4".repeat(6);
        state("a new object", new String[] {}, "lay = NO", "like = NO", "restore 0|1 = STATE", "booked 0 0 = UNKNOWN", "booked 0 22 = UNKNOWN",
            "even 1|2|4|5 = UNKNOWN");
        state("a busy one, an empty PAD", busy, "lay = NO", "like = NO", "booked 4 0 = UNKNOWN", "booked 0 2|9|22|" + BAD + " = OUTSIDE",
            "even 1|2|5 = UNKNOWN");
        state("a busy one, a BOARD on the PAD", join(busy, "pad 0a173d584c37!"), "judge 0|1 = NO", "play = NO", "book = NO",
            "next 0|1|2|3|4 = NO", "judge 2 = OUTSIDE", "next 5 = OUTSIDE");
        state("a busy one, a good GAME on the PAD", join(busy, "pad a1b2"), "lay = NO", "like = NO");
        state("a busy one, a GAME on the PAD that is not good", join(busy, "pad a1b2a1b2"), "play = NO", "book = NO", "lay = NO", "like = NO");
        state("a busy one, a FAULT at the end of the PAD", join(busy, "pad a1b"), "judge 0|1 = NO", "play = NO", "book = NO", "next 0|3 = NO",
            "lay = NO", "like = NO");
        state("a busy one, a BOARD on the PAD that ends too early", join(busy, "pad 0a173d584c3"), "lay = NO", "like = NO", "play = NO", "book = NO");
        state("a busy one, a BOARD on the PAD without a FATHER", join(busy, "pad 0a174c37"), "lay = NO", "like = NO");
        state("a full PAD", join(busy, "pad " + twelve), "say 33|97|126 = FULL", "say 32 = OUTSIDE", "lay = NO", "like = NO", "play = NO", "book = NO");
        state("a full PAD with a FAULT", join(busy, "pad " + twelve.substring(1) + "a"), "say 33|126 = FULL", "judge 0 = NO", "next 0 = NO", "play = NO", "book = NO");
        state("a full BOOK, a good GAME on the PAD", join(busy, "pad", "book = 4", "book = 5", "book = 6", "book = 7", "pad a1b2"), "book = FULL");
        state("a full BOOK, an empty PAD", join(busy, "pad", "book = 4", "book = 5", "book = 6", "book = 7"), "book = FULL", "lay = NO");
        state("a full BOOK, a FAULT", join(busy, "pad", "book = 4", "book = 5", "book = 6", "book = 7", "pad a1b"), "book = NO", "play = NO");
        state("a FATHER has fallen", new String[] {"board 0a173b204d50", "pad a1b2", "play = 1", "image 1 = 1", "book = 0", "pad d5c3"},
            "even 3 = UNKNOWN", "play = NO", "book = NO", "restore 0 = STATE");
        state("too many STANDS", new String[] {"board " + SIX, "image 0 = 1", "pad a1b3"}, "stands = FULL", "solve 0|1|2 = FULL",
            "solve 3 = OUTSIDE", "restore 1 = STATE");
        state("STILL men alone", new String[] {"board 0a193e59!", "law 0 0 0 = 258", "pad e5e4"}, "play = NO", "book = NO", "lay = NO");
        end("refused calls change nothing");
    }
}
