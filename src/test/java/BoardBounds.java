// The boundary cases of part 1 (promises 1 to 9), a test for each sentence that names one.
public final class BoardBounds extends Rows {
    private static final String SIX = "0a103e501b102c104d505c50";

    private BoardBounds() {
        super("");
    }

    private static void objects() {
        holds("MAN 0 on a1, MAN 3 on e5, both of AGE 0",
            "man 0 0 = 0", "man 3 0 = 24", "man 0|3 1 = 0", "on 0 = 0", "on 24 = 3",
            "man 1|2|4|5 0 = NONE", "man 1|2|4|5 1 = 0", "on 1|23 = NONE");
        holds("THE BOOK is empty", "told 1 = 0", "booked 0 0 = UNKNOWN", "next 0|1|2|4 = 0", "next 3 = NONE");
        holds("It is the TURN of side 0 at first", "state 0 = 0", "moves 0 = a1c2", "moves 1 = a1b3", "moves 2 = NONE");
        Rows last = holds("An object is used for at most 512 calls after it has been made");
        for (int i = 1; i <= 47; i++) {
            last.due("say 97", i);
        }
        for (int i = last.calls(); i < MOST_CALLS - 4; i++) {
            last.due("told 0", 47);
        }
        last.and("say 126 = 48", "say 126 = FULL", "stands = 7248", "wipe = 48");
        if (last.calls() != MOST_CALLS) {
            last.complain("there were " + last.calls() + " calls");
        }
    }

    private static void refusedFirst() {
        holds("the first of these that fits: UNKNOWN ahead of OUTSIDE",
            "man -1|6 -1|3 = UNKNOWN", "man 0 3 = OUTSIDE", "booked -1|0 -1|22 = UNKNOWN",
            "book = 0", "booked 0 22 = OUTSIDE", "booked 1 22 = UNKNOWN");
        holds("the first of these that fits: OUTSIDE ahead of STATE", "restore -1|2 = OUTSIDE", "restore 0|1 = STATE");
        holds("the first of these that fits: OUTSIDE ahead of NO",
            "pad a", "judge -1|2 = OUTSIDE", "judge 0|1 = NO", "next -1|5 = OUTSIDE", "next 0|1|2|3|4 = NO");
        holds("the first of these that fits: OUTSIDE ahead of FULL",
            "board " + SIX, "solve -1|3 = OUTSIDE", "solve 0|1|2 = FULL",
            "pad " + "a".repeat(48), "say 32|127 = OUTSIDE", "say 33|126 = FULL");
        holds("the first of these that fits: NO ahead of FULL",
            "book = 0", "book = 1", "book = 2", "book = 3", "book = 4", "book = 5", "book = 6", "book = 7",
            "book = FULL", "pad a1", "book = NO", "pad a1a2", "book = NO", "pad a1b3", "book = FULL");
    }

    private static void cellsAndMen() {
        holds("columns a to e, rows 1 to 5 (a CELL is the column, 0 to 4, and 5 times the row less 1)",
            "board 0a103e50", "man 0 0 = 0", "man 3 0 = 24", "board 0e103a50", "man 0 0 = 4", "man 3 0 = 20",
            "board 0a203e40", "man 0 0 = 5", "man 3 0 = 19", "told 10 = 5", "told 13 = 19");
        holds("on: UNKNOWN (there is no such CELL)",
            "on 0 = 0", "on 24 = 3", "on 1|23|5|19 = NONE", "on -1|25|31|-32|LEAST|GREATEST = UNKNOWN");
        String others = "on 0|1|2|3|4|5|6|7|8|9|10|11|14|15|16|17|18|19|20|21|22|23|24 = NONE";
        holds("on: NONE: no one stands there", "board 0c303d30", others, "on 12 = 0", "on 13 = 3", "board 3c300d30!", others,
            "on 12 = 3", "on 13 = 0");
        holds("man: UNKNOWN (there is no such MAN)",
            "board " + SIX, "man 0 0 = 0", "man 5 0 = 22", "man -1|6|LEAST|GREATEST 0|1|2 = UNKNOWN");
        holds("man: 0, 1, 2; OUTSIDE",
            "man 0 0|1|2 = 0", "man 0|3|5 -1|3|LEAST|GREATEST = OUTSIDE");
        holds("MEN 0 to 2 are of side 0, 3 to 5 of side 1",
            "board 0a192c303e595b30", "moves -1 = 8", "moves 0 = c3b1", "reach 1 = {a1 c1 d2 d4 a5 c5}",
            "reach 0 = {b1 d1 a2 e2 a4 e4 b5 d5}",
            "board 0a192c303e595b30!", "moves -1 = 6", "moves 0 = b3a1",
            "board 0a191c303e594b30", "moves 0 = c3b1", "board 0a191c303e594b30!", "moves 0 = b3a1");
        holds("0 and 3 are FATHERS",
            "board 0b471b272b373e574c36!", "pad c3b2", "play = 1", "state 1 = 0", "man 1 0 = NONE",
            "board 0b471b272b373e574c36!", "pad c3b3", "play = 1", "state 1 = 0", "man 2 0 = NONE",
            "board 0b471b272b373e574c36!", "pad c3b4", "play = 1", "state 1 = 2", "man 0 0 = NONE",
            "board 3b474b275b370a171c36", "pad c3b2", "play = 1", "state 1 = 0", "man 4 0 = NONE",
            "board 3b474b275b370a171c36", "pad c3b3", "play = 1", "state 1 = 0", "man 5 0 = NONE",
            "board 3b474b275b370a171c36", "pad c3b4", "play = 1", "state 1 = 1", "man 3 0 = NONE");
        holds("stands on a CELL, or not (his AGE is 0 then, also when he is taken)",
            "man 1 0 = NONE", "man 1 1 = 0", "board 0b471b292b373e574c36!", "man 1 1 = 9", "pad c3b2", "play = 1",
            "man 1 0 = NONE", "man 1 1 = 0", "told 11 = NONE", "told 21 = 0", "on 6 = 4", "man 4 1 = 7",
            "board 0a103e502c17", "man 2 1 = 7", "board 0a103e50", "man 2 0 = NONE", "man 2 1 = 0");
        holds("has an AGE 0 to 9", "board 0a103e59", "man 0 1 = 0", "man 3 1 = 9", "told 20 = 0", "told 23 = 9");
    }

    private static void lawOfAges() {
        holds("BOYS below a first AGE, GROWN below a second one, OLD below a third one, all others STILL (2, 5, 8 at first)",
            "board 0a103e59", "man 0 2 = 0", "man 3 2 = 3", "board 0a113e52", "man 0 2 = 0", "man 3 2 = 1",
            "board 0a143e55", "man 0 2 = 1", "man 3 2 = 2", "board 0a173e58", "man 0 2 = 2", "man 3 2 = 3");
        holds("THE LAW at its edges: 0 to 9",
            "board 0a183e59", "law 9 9 9 = 258", "man 0 2 = 0", "man 3 2 = 3", "law 0 9 9 = 999", "man 0 2 = 1",
            "man 3 2 = 3", "law 0 0 9 = 99", "man 0 2 = 2", "man 3 2 = 3",
            "board 0a103e51", "law 0 0 0 = 9", "man 0|3 2 = 3", "law 1 1 1 = 0", "man 0 2 = 0", "man 3 2 = 3",
            "law 0 1 1 = 111", "man 0 2 = 1", "man 3 2 = 3", "law 0 0 1 = 11", "man 0 2 = 2", "man 3 2 = 3");
        holds("law: OUTSIDE: each of the three is 0 to 9",
            "law 0 0 0 = 258", "law 9 9 9 = 0", "law -1|LEAST 9 9 = OUTSIDE", "law -1 -1 -1 = OUTSIDE",
            "law 10|GREATEST 10 10 = OUTSIDE", "law 10 9 9 = OUTSIDE", "law 0 -1|LEAST 9 = OUTSIDE",
            "law 9 10|GREATEST 9 = OUTSIDE", "law 9 10 10 = OUTSIDE", "law 9 9 10|GREATEST = OUTSIDE",
            "law 0 0 -1|LEAST = OUTSIDE", "law 9 9 9 = 999", "told 2|3|4 = 9");
        holds("law: none less than the one ahead",
            "law 4 3 8 = OUTSIDE", "law 4 4 8 = 258", "law 4 6 5 = OUTSIDE", "law 4 6 6 = 448", "law 4 3 3 = OUTSIDE",
            "law 4 4 3 = OUTSIDE", "law 4 4 4 = 466", "law 1 0 9 = OUTSIDE", "law 0 1 0 = OUTSIDE", "law 9 8 9 = OUTSIDE",
            "told 2|3|4 = 4");
        holds("law: 100, 10 times and once, as they were",
            "law 0 0 9 = 258", "law 0 9 9 = 9", "law 9 9 9 = 99", "law 0 0 0 = 999", "law 1 2 3 = 0", "law 2 5 8 = 123");
    }

    private static void over() {
        holds("OVER: a FATHER was taken (his side has LOST)",
            "board 0a173b20", "pad a1b2", "play = 1", "state 0 = 1", "state 1 = 1", "moves -1 = 0",
            "board 0a103b27!", "pad b2a1", "play = 1", "state 0 = 0", "state 1 = 2", "moves -1 = 0");
        holds("OVER: a FATHER was taken, though his side could still move",
            "board 0a173b204d50", "pad a1b2", "play = 1", "state 1 = 1", "moves -1 = 0", "moves 0 = NONE",
            "board 0a101e103b27!", "pad b2a1", "play = 1", "state 1 = 2", "moves -1 = 0");
        holds("the side whose TURN it is can not move: it has LOST, if the other side could",
            "board 0a183e57", "state 1 = 2", "board 0a173e58!", "state 1 = 1",
            "board 0a131a292b193e57", "state 1 = 2", "board 0a101c292b393e57", "state 1 = 2");
        holds("the side whose TURN it is can move, the other one can not: it is not OVER",
            "board 0a173e58", "state 1 = 0", "board 0a183e57!", "state 1 = 0",
            "board 0a191b173e58", "state 1 = 0", "board 0a191b192c173e58", "state 1 = 0");
        holds("neither could: it is DRAWN",
            "board 0a183e58", "state 1 = 3", "board 0a183e58!", "state 1 = 3", "board 0a193e534e495d59", "state 1 = 3",
            "board 0a131a292b193e58", "state 1 = 3", "board 0a101c292b393e504c495d39", "state 1 = 3",
            "law 0 0 0 = 258", "board 0a103e50", "state 1 = 3", "board " + SIX, "state 1 = 3");
        holds("state: 0, 1; OUTSIDE", "state 0|1 = 0", "state -1|2|LEAST|GREATEST = OUTSIDE");
    }

    private static void pads() {
        Rows pad = holds("A PAD of up to 48 signs", "told 0 = 0", "wipe = 0");
        for (int i = 1; i <= 48; i++) {
            pad.due("say 97", i);
        }
        pad.and("told 0 = 48", "say 97 = FULL", "told 0 = 48", "say 33|126 = FULL", "wipe = 48", "told 0 = 0",
            "wipe = 0", "say 97 = 1");
        holds("signs (codes 33 to 126)",
            "say 32|127 = OUTSIDE", "say 0|-1|10|255|304|353|65633|-159|LEAST|GREATEST = OUTSIDE", "told 0 = 0",
            "say 33 = 1", "say 126 = 2", "say 34 = 3", "say 125 = 4");
        Rows all = holds("each sign from 33 to 126 is taken");
        for (int sign = 33; sign <= 126; sign++) {
            if ((sign - 33) % 48 == 0) {
                all.ask("wipe");
            }
            all.due("say " + sign, (sign - 33) % 48 + 1);
        }
        Rows none = holds("no sign below 33 or above 126 is taken");
        for (int sign = -100; sign <= 300; sign++) {
            if (sign < 33 || sign > 126) {
                none.due("say " + sign, -2);
            }
        }
        none.due("told 0", 0);
    }

    /** The prefix is good so far: just the signs given can stand behind it. */
    private static void canStand(int how, String prefix, String signs) {
        Rows rows = new Rows("THE FAULT: the place of the first sign that can not stand there: behind '" + prefix + "'");
        for (int sign = 33; sign <= 126; sign++) {
            if (rows.calls() + prefix.length() + 3 > MOST_CALLS) {
                rows = new Rows("THE FAULT behind '" + prefix + "'");
            }
            rows.pad(prefix + (char) sign);
            boolean faulty = rows.ask("fault " + how) == prefix.length();
            if (faulty == signs.indexOf(sign) >= 0) {
                rows.complain("sign " + (char) sign + (faulty ? " can" : " can not") + " stand there");
            }
        }
    }

    private static void boardTexts() {
        canStand(0, "", "012345!");
        canStand(0, "0", "abcde");
        canStand(0, "0a", "12345");
        canStand(0, "0a1", "0123456789");
        canStand(0, "0a10", "12345!");
        canStand(0, "0a103", "abcde");
        canStand(0, "0a103a", "2345");
        canStand(0, "0a103b", "12345");
        canStand(0, "0a103e5", "0123456789");
        canStand(0, "0a103e50", "1245!");
        canStand(0, "0a103e50!", "");
        canStand(0, "!", "");
        canStand(0, "5e54", "01234!");
        canStand(0, "0a101a202a303a404a505b", "12345");
        // Column a is full: its sign may still stand there, and no row behind it (so NOTES.md reads the document).
        canStand(0, "0a101a202a303a404a505", "abcde");
        canStand(0, "0a101a202a303a404a505a", "");
        canStand(0, SIX, "!");
        canStand(0, SIX + "!", "");
        Rows twice = holds("no MAN twice");
        for (int man = 0; man < 6; man++) {
            twice.pad(man + "c30" + man);
            twice.due("fault 0", 4);
        }
        Rows shared = holds("no two on one CELL");
        for (int cell = 0; cell < 25; cell++) {
            shared.pad("0" + text(cell) + "03" + text(cell) + "0");
            shared.due("fault 0", 6);
        }
        Rows apart = holds("two on CELLS beside one another");
        for (int cell = 0; cell + 1 < 25; cell++) {
            apart.pad("0" + text(cell) + "03" + text(cell + 1) + "0");
            apart.due("fault 0", -6);
        }
        holds("perhaps ! at the end",
            "pad 0a103e50", "fault 0 = NONE", "pad 0a103e50!", "fault 0 = NONE", "pad 0a103e50!!", "fault 0 = 9",
            "pad 0a103e50!1b10", "fault 0 = 9", "pad 0a10!3e50", "fault 0 = 5", "pad !0a103e50", "fault 0 = 1",
            "pad 0!a103e50", "fault 0 = 1", "pad 0a!103e50", "fault 0 = 2", "pad 0a1!3e50", "fault 0 = 3",
            "pad 0a103e5!", "fault 0 = 7");
    }

    private static void moreMustCome() {
        String text = "1a102b203c300d40!";
        Rows more = holds("THE FAULT: the number of signs, if more must come (BOARD)");
        for (int length = 0; length <= text.length(); length++) {
            more.pad(text.substring(0, length));
            more.due("fault 0", length < 16 ? length : -6);
        }
        String six = SIX + "!";
        Rows whole = holds("behind each whole MAN the BOARD may end");
        for (int length = 8; length <= six.length(); length++) {
            whole.pad(six.substring(0, length));
            whole.due("fault 0", length % 4 == 0 || length == 25 ? -6 : length);
        }
        holds("behind a BOARD's text both FATHERS must be there: else the number of signs",
            "pad", "fault 0 = 0", "pad !", "fault 0 = 1", "pad 0a10", "fault 0 = 4", "pad 0a10!", "fault 0 = 5",
            "pad 3a10", "fault 0 = 4", "pad 3a10!", "fault 0 = 5", "pad 1a104b10", "fault 0 = 8",
            "pad 0a101b102c104d105e10", "fault 0 = 20", "pad 0a101b102c104d105e10!", "fault 0 = 21",
            "pad 1a102b103c104d105e10", "fault 0 = 20", "pad 1a102b103c104d105e10!", "fault 0 = 21",
            "pad 1a102b104d105e10", "fault 0 = 16", "pad 0a103b10", "fault 0 = NONE", "pad 3b100a10", "fault 0 = NONE");
        holds("the first FAULT counts, not the FATHERS that are not there",
            "pad 0a10x", "fault 0 = 4", "pad 0a10!x", "fault 0 = 5", "pad 6a10", "fault 0 = 0", "pad 0a100a10", "fault 0 = 4");
        String full = "0a103e50" + "x".repeat(40);
        holds("THE FAULT of a full PAD", "pad " + full, "fault 0 = 8", "fault 1 = 0", "say 120 = FULL", "fault 0 = 8");
        holds("fault: OUTSIDE: how", "fault 0 = 0", "fault 1 = NONE", "fault -1|2|LEAST|GREATEST = OUTSIDE");
    }

    private static void gameTexts() {
        canStand(1, "", "abcde");
        canStand(1, "a", "12345");
        canStand(1, "a1", "abcde");
        canStand(1, "a1a", "12345");
        canStand(1, "a1b3", "abcde");
        canStand(1, "a1b3e", "12345");
        String twelve = "e5d4c3b2a1e1d2c4b5a3e2d1c5b4a2e4d5c1b3a4e3d3c2b1";
        canStand(1, twelve.substring(0, 46), "abcde");
        canStand(1, twelve.substring(0, 47), "12345");
        Rows game = null;
        for (int length = 0; length <= 48; length++) {
            if (game == null || game.calls() + length + 2 > MOST_CALLS) {
                game = holds("THE FAULT: the number of signs, if more must come (GAME); 12 MOVES at most");
            }
            game.pad(twelve.substring(0, length));
            game.due("fault 1", length % 4 == 0 ? -6 : length);
        }
        game.and("say 97 = FULL", "fault 1 = NONE");
        holds("a GAME may be empty",
            "fault 1 = NONE", "judge 0|1 = NONE", "play = 0", "next 0 = 0", "book = 0", "booked 0 0 = 0", "next 0 = 1");
    }

    private static void laying() {
        holds("lay: the PAD becomes THE BOARD (it is empty then): MEN that stand",
            "pad 0b213d42", "lay = 2", "told 0 = 0", "man 0 0 = 6", "man 0 1 = 1", "man 3 0 = 18", "man 3 1 = 2",
            "pad " + SIX + "!", "lay = 6", "told 0 = 0", "state 0 = 1", "man 5 0 = 22",
            "pad 3a100e50", "lay = 2", "state 0 = 0", "man 1|2|4|5 0 = NONE", "man 0 0 = 24", "man 3 0 = 0");
        holds("lay: NO: there is a FAULT",
            "lay = NO", "pad 0a103e5", "lay = NO", "told 0 = 7", "pad 0a10", "lay = NO", "told 0 = 4",
            "pad 0b203e50x", "lay = NO", "told 0 = 9", "pad a1b3", "lay = NO", "told 0 = 4", "fault 1 = NONE",
            "man 0 0 = 0", "man 3 0 = 24", "state 0 = 0");
    }

    public static void main(String[] args) {
        objects();
        refusedFirst();
        cellsAndMen();
        lawOfAges();
        over();
        pads();
        boardTexts();
        moreMustCome();
        gameTexts();
        laying();
        end("the bounds of part 1 hold");
    }
}
