// The boundary cases of part 3 (promises 15 to 18), a test for each sentence that names one.
public final class SolvedBounds extends Rows {
    private static final String YOUNG = "0a103e501b102c104d505c50";

    private SolvedBounds() {
        super("");
    }

    private static Model modelOf(String text) {
        Model model = new Model();
        model.pad = text;
        model.call("lay");
        return model;
    }

    // The boards were found by search; how many stands they have is counted again by the model, which has no bound here.
    private static void mostStands(String text, int stands) {
        Model model = modelOf(text);
        model.limit = 1000000;
        int[] want = model.solve(model.board);
        boolean full = stands > 20000;
        Rows rows = holds("if there are more than 20000, it is refused (FULL): " + text, "board " + text);
        if (model.memo.size() != stands) {
            rows.complain("the model counts " + model.memo.size() + " stands");
        }
        rows.due("stands", full ? -4 : stands);
        for (int what = 0; what < 3; what++) {
            rows.due("solve " + what, full ? -4 : want[what]);
        }
        rows.due("stands", full ? -4 : stands);
        // What was refused leaves nothing behind that a smaller board would meet.
        rows.and("board 0a173c27", "stands = 28", "solve 0 = 0", "solve 1 = 2", "solve 2 = a1a2",
            "board " + text, "stands = " + (full ? "FULL" : "" + stands));
    }

    private static void stands() {
        String[] most = {"0e473c312a44", "0d213b342a10!", "0a543b275a30!", "0d163c474e245c36!", "0b273a541a30"};
        for (String text : most) {
            mostStands(text, 20000);
        }
        String[] tooMany = {"0c523c142a37", "0d193b562a245d36!", "0e323a342c17", "0c213b252a50", "0c543a134a37!"};
        for (String text : tooMany) {
            mostStands(text, 20001);
        }
        holds("STANDS that can come from THE BOARD by MOVES, this one, too",
            "board 0a183e58", "stands = 1", "board 0a183e57", "stands = 1", "board 0a173e58!", "stands = 1",
            "board 0a173e58", "stands = 4", "board 0a183e57!", "stands = 4",
            "board 0a173b204d50", "pad a1b2", "play = 1", "stands = 1");
        holds("STANDS: whose TURN it is tells them apart, and so do AGES",
            "board 0a173e57", "stands = 13", "board 0a163e57", "stands = 40", "law 9 9 9 = 258", "board 0a183e59", "stands = 3");
        holds("stands, solve: FULL", "board " + YOUNG, "stands = FULL", "solve 0|1|2 = FULL", "stands = FULL",
            "law 0 0 0 = 258", "stands = 1", "solve 0|1 = 0", "law 2 5 8 = 0", "stands = FULL");
        holds("SOLVED goes by THE LAW as it is now",
            "stands = 7248", "law 0 0 0 = 258", "stands = 1", "law 2 5 8 = 0", "stands = 7248", "solve 1 = 16");
    }

    private static void solving() {
        holds("SOLVED when it is OVER: 0 MOVES, no best one",
            "solve 2 = a1c2", "board 0a183e58", "solve 0|1 = 0", "solve 2 = NONE", "board 0a163e58", "solve 2 = a1b1", "board 0a183e57", "solve 0 = 2", "solve 1 = 0", "solve 2 = NONE",
            "board 0a173e58!", "solve 0 = 2", "solve 1 = 0", "solve 2 = NONE",
            "board 0a173b204d50", "pad a1b2", "play = 1", "solve 0 = 2", "solve 1 = 0", "solve 2 = NONE");
        holds("SOLVED: wins (1), draws (0), loses (2)",
            "board 0a163e58", "solve 0|1 = 1", "solve 2 = a1b1", "board 0a173e58", "solve 0 = 0", "solve 1 = 1", "solve 2 = a1b1",
            "board 0a173c26", "solve 0|1 = 2", "solve 2 = a1b1");
        // b1c1 and b1b2 win at once; b1a1, the first of all, only in three.
        holds("who wins the fewest", "board 0c493b281b164c17", "moves 0 = b1a1", "solve 0|1 = 1", "solve 2 = b1c1");
        // c5b4 is the first of all, and he is taken there at once.
        holds("who loses the most", "board 0c493a561c56", "moves 0 = c5b4", "solve 0 = 2", "solve 1 = 4", "solve 2 = c5d4");
        // a1b1 takes the last one who could go; behind the others he goes once more.
        holds("who draws the most", "board 0a583c491a175b17", "moves 0 = a1b1", "solve 0 = 0", "solve 1 = 2", "solve 2 = a1a2");
        holds("the first best MOVE", "board 0a163e59", "moves -1 = 3", "solve 2 = a1b1", "board 0a191d452e453e58", "solve 2 = d4c3");
        holds("solve: 0, 1, 2; OUTSIDE", "solve 0 = 0", "solve 1 = 16", "solve 2 = a1c2", "solve -1|3|LEAST|GREATEST = OUTSIDE");
    }

    // Found by search: here one STAND that comes by several ways is kept in the solver's first slot, and what it was
    // found to bring decides all.
    private static void cameByOtherWays() {
        String[] texts = {"0b243e584a54", "0e273e562b45"};
        for (String text : texts) {
            Model model = modelOf(text);
            int[] want = model.solve(model.board);
            Rows rows = holds("SOLVED: a STAND that came by another way brings what it brought then: " + text, "board " + text);
            rows.due("stands", model.memo.size());
            for (int what = 0; what < 3; what++) {
                rows.due("solve " + what, want[what]);
            }
        }
    }

    private static void keys() {
        holds("KEYS: n 1 or 2; OUTSIDE: n",
            "keys 1|2 -1 = 0", "keys 0|3|-1|-2|LEAST|GREATEST -1|0 = OUTSIDE", "keys 0 LEAST = OUTSIDE");
        holds("KEYS: how many (i = -1), the i-th MOVE; NONE",
            "board 0a163e58", "keys 1 -1 = 3", "keys 1 0 = a1b1", "keys 1 1 = a1a2", "keys 1 2 = a1b2",
            "keys 1|2 3|4|24|25|-2|-3|LEAST|GREATEST = NONE");
        holds("wins in n MOVES of his own at most: 1",
            "board 0a163e58", "keys 1|2 -1 = 3", "board 0b273c35", "keys 1|2 -1 = 1", "keys 1|2 0 = b2c3", "keys 1|2 1 = NONE");
        holds("wins in n MOVES of his own at most: 2",
            "board 0a153e57", "keys 1 -1 = 0", "keys 1 0 = NONE", "keys 2 -1 = 3", "keys 2 0 = a1b1", "solve 1 = 3");
        holds("wins in n MOVES of his own at most: not in 3",
            "law 0 0 9 = 258", "board 0a153e57", "solve 0 = 1", "solve 1 = 5", "keys 1|2 -1 = 0", "keys 1|2 0 = NONE",
            "board 0a163e58", "solve 1 = 3", "keys 1 -1 = 0", "keys 2 -1 = 3");
        holds("KEYS: what is DRAWN, lost or OVER is not won",
            "board 0a173e58", "keys 1|2 -1 = 0", "board 0a173c26", "keys 1|2 -1 = 0", "board 0a183e58", "keys 1|2 -1 = 0",
            "keys 1|2 0 = NONE", "board 0a183e57", "keys 1|2 -1 = 0", "board 0a173e58!", "keys 1|2 -1 = 0",
            "board 0a173b204d50", "pad a1b2", "play = 1", "keys 1|2 -1 = 0");
        // Behind e4d3 the last of his moves gets him away, behind e4d4 the first one, which takes.
        holds("KEYS: whatever the other side does", "board 0e453e56", "keys 1|2 -1 = 1", "keys 1|2 0 = e4e5");
        // Behind the first keys nothing wins but to take the father: the first move that may be, and the last one.
        holds("KEYS: by one second MOVE alone", "board 0a463a284a17", "keys 1 -1 = 0", "keys 2 -1 = 2", "keys 2 0 = a4a3", "keys 2 1 = a4b3",
            "board 0c563d595e56", "keys 1 -1 = 1", "keys 1 0 = c5d5", "keys 2 -1 = 2", "keys 2 0 = c5c4", "keys 2 1 = c5d5");
        holds("KEYS go by THE LAW, THE BOARD and n as they are now",
            "board 0a163e58", "keys 1 -1 = 3", "law 0 0 0 = 258", "keys 1 -1 = 0", "law 2 5 8 = 0", "keys 1 -1 = 3",
            "board 0a153e57", "keys 1 -1 = 0", "keys 2 -1 = 3", "keys 1 -1 = 0");
        holds("A DOUBLE: two KEYS or more; and one alone",
            "board 0a191d452e453e50", "keys 1 -1 = 2", "keys 1 0 = d4e5", "keys 1 1 = e4e5", "keys 1 2 = NONE",
            "board 0a191d452e393e50", "keys 1 -1 = 1", "keys 1 0 = d4e5", "keys 1 1 = NONE");
        holds("KEYS of side 1", "board 0a183e56!", "keys 1 -1 = 3", "keys 1 0 = e5d4", "keys 1 2 = e5d5");
        holds("KEYS where SOLVED is FULL", "board " + YOUNG, "stands = FULL", "keys 1|2 -1 = 0",
            "board 0a101b103c204d505c50", "stands = FULL", "keys 1 -1 = 1", "keys 1 0 = a1c2");
        // 24 moves, and each leaves the other side without one.
        holds("KEYS: all 24 MOVES", "board 0b231c432d323e59", "keys 1|2 -1 = 24", "keys 1 23 = d3d5", "keys 1 24 = NONE");
    }

    /** By laying the board with each of the ages, on new objects. */
    private static void evenByLaying(String text, int man, int fullAges) {
        int at = 0;
        while (text.charAt(at) != '0' + man) {
            at += 4;
        }
        Rows rows = holds("EVEN: AGES of a MAN by which SOLVED tells 0: " + text + " of " + man, "board " + text);
        int bits = 0;
        int full = 0;
        for (int age = 0; age <= 9; age++) {
            String other = text.substring(0, at + 3) + age + text.substring(at + 4);
            Rows laid = holds("EVEN by laying " + other, "board " + other);
            int brings = laid.ask("solve 0");
            bits |= brings == 0 ? 1 << age : 0;
            full |= brings == -4 ? 1 << age : 0;
        }
        if (full != fullAges) {
            rows.complain("FULL are " + full);
        }
        rows.due("even " + man, bits);
        if (modelOf(text).call("even", man) != bits) {
            rows.complain("the model tells otherwise");
        }
    }

    private static void evens() {
        holds("even: UNKNOWN: also who does not stand",
            "even 1|2|4|5|-1|6|31|LEAST|GREATEST = UNKNOWN", "board 0a173b204d50", "even 4 = 0", "pad a1b2", "play = 1", "even 3 = UNKNOWN",
            "even 0|4 = 0");
        holds("EVEN: AGES 0 to 9", "law 0 0 0 = 258", "even 0|3 = 1023", "law 1 1 1 = 0", "even 0 = 1", "even 3 = 1023");
        holds("EVEN: all else as it is",
            "board 0a173e59", "even 0|3 = 896", "man 0 1 = 7", "man 3 1 = 9", "told 20 = 7", "stands = 4", "state 0 = 0");
        holds("EVEN: those that are FULL do not count", "board " + YOUNG, "even 0|1|2|3|4|5 = 0");
        evenByLaying("0a173e58", 3, 0);
        evenByLaying("0a173e58!", 0, 0);
        evenByLaying("0a183e57", 0, 0);
        // Ages at which the model, when it goes on behind 20000 stands, tells that it is even: 0, 2, 7 and 3.
        evenByLaying("0b103e374c11", 0, 7);
        evenByLaying("0d373b421c53!", 3, 31);
        evenByLaying("0a313e214e17!", 4, 255);
        evenByLaying("0d153c431e57", 0, 14);
    }

    public static void main(String[] args) {
        stands();
        solving();
        cameByOtherWays();
        keys();
        evens();
        end("the bounds of part 3 hold");
    }
}
