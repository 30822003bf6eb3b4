// The boundary cases of part 4 (promises 19 to 27), a test for each sentence that names one.
public final class BookBounds extends Rows {
    private static final String SIX = "0a103e501b102c104d505c50";
    private static final String TWELVE = "a1c2e5d3c2a1d3e5a1c2e5d3c2a1d3e5a1c2e5d3c2a1d3e5";

    private BookBounds() {
        super("");
    }

    private static void books() {
        Rows eight = holds("THE BOOK: 8 GAMES at most");
        for (int i = 0; i < 8; i++) {
            eight.pad("a1b3");
            eight.due("book", i);
            eight.due("told 0", 0);
            eight.due("told 1", i + 1);
            eight.due("booked " + i + " 0", 1);
            eight.due("booked " + (i + 1) + " 0", -1);
        }
        eight.and("pad a1c2", "book = FULL", "told 0 = 4", "told 1 = 8", "next 0 = 0", "pad", "book = FULL", "next 0 = 8",
            "booked 7 10 = a1b3", "booked 8 0 = UNKNOWN");
        holds("book: its number; the PAD is empty then",
            "pad a1b3", "book = 0", "told 0 = 0", "man 0 0 = 0", "state 0 = 0", "pad a1c2", "book = 1", "book = 2", "booked 2 0 = 0");
        holds("book: NO: there is a FAULT",
            "pad a1b", "book = NO", "told 0 = 3", "told 1 = 0", "pad a1b6", "book = NO", "pad 0a103e50", "book = NO", "told 1 = 0");
        holds("book: NO: it is not good",
            "pad a1a2", "book = NO", "told 0 = 4", "told 1 = 0", "pad a1b3e5e4", "book = NO", "told 0 = 8", "told 1 = 0",
            "board 0a183e58", "pad a1a2", "book = NO", "pad", "book = 0");
        holds("what it brought: at its end 0 not OVER, 1 side 0 has won, 2 side 1 has, 3 DRAWN",
            "pad a1b3", "book = 0", "booked 0 1 = 0", "board 0a163e58", "pad a1b1", "book = 1", "booked 1 1 = 1",
            "board 0a183e56!", "pad e5d4", "book = 2", "booked 2 1 = 2", "board 0a173e58", "pad a1b1", "book = 3", "booked 3 1 = 3",
            "board 0a173b204d50", "pad a1b2", "book = 4", "booked 4 1 = 1", "board 0a103b271e10!", "pad b2a1", "book = 5", "booked 5 1 = 2");
        holds("what an empty GAME brought",
            "book = 0", "booked 0 1 = 0", "board 0a183e57", "book = 1", "booked 1 1 = 2", "board 0a173e58!", "book = 2", "booked 2 1 = 1",
            "board 0a183e58", "book = 3", "booked 3 1 = 3");
        holds("each from THE BOARD as it was then",
            "pad a1b3", "book = 0", "pad a1b3", "play = 1", "next 0 = 0", "book = 1", "next 0 = 1", "law 0 0 0 = 258",
            "booked 0 1 = 0", "booked 0 10 = a1b3", "board 0a103e50", "next 0 = 1", "next 3 = a1b3", "mirror 1 = 2", "next 0 = 0",
            "booked 0 10 = a1b3");
    }

    private static void booked() {
        Rows long12 = holds("booked: 10 and k: its k-th MOVE (NONE)", "law 9 9 9 = 258", "pad " + TWELVE, "book = 0", "booked 0 0 = 12",
            "pad " + TWELVE.substring(0, 44), "book = 1", "booked 1 0 = 11", "booked 1 20 = c2a1", "booked 1 21 = NONE",
            "book = 2", "booked 2 0 = 0", "booked 2 10|11|20|21 = NONE", "pad a1c2", "book = 3", "booked 3 10 = a1c2",
            "booked 3 11|21 = NONE");
        for (int k = 0; k < 12; k++) {
            long12.due("booked 0 " + (10 + k), answer(TWELVE.substring(4 * k, 4 * k + 4)));
        }
        holds("booked: UNKNOWN (there is no such GAME)",
            "booked -1|0|1|8|LEAST|GREATEST 0|1|10 = UNKNOWN", "book = 0", "booked 0 0 = 0", "booked -1|1|8|LEAST|GREATEST 0|1|10 = UNKNOWN");
        holds("booked: OUTSIDE: 0, 1, 10 to 21",
            "book = 0", "booked 0 0|1 = 0", "booked 0 10|21 = NONE", "booked 0 -1|2|9|22|LEAST|GREATEST = OUTSIDE");
    }

    private static void begun() {
        holds("BOOKED: of GAMES whose BOARD was as THE BOARD is now",
            "board 0b213d424c33", "pad b2d1", "book = 0", "next 0 = 1", "board 4c333d420b21", "next 0 = 1",
            "board 0b213d424c33!", "next 0 = 0", "board 0b223d424c33", "next 0 = 0", "board 0b213d424c34", "next 0 = 0",
            "board 0b313d424c33", "next 0 = 0", "board 0b213d425c33", "next 0 = 0", "board 0b213d42", "next 0 = 0",
            "board 0b213d424c335a10", "next 0 = 0", "next 3 = NONE", "next 4 = 0", "board 0b213d424c33", "next 0 = 1");
        holds("BOOKED: that begin with the MOVES of the GAME on the PAD",
            "pad a1b3e5d3", "book = 0", "pad a1b3", "book = 1", "book = 2",
            "next 0 = 3", "pad a1b3", "next 0 = 2", "pad a1b3e5d3", "next 0 = 1", "pad a1b3e5c4", "next 0 = 0",
            "pad a1c2", "next 0 = 0", "pad a1c2e5d3", "next 0 = 0", "pad a1b3e5d3b3a1", "next 0 = 0", "next 3 = NONE", "next 4 = 0");
        holds("BOOKED: how many of these side 0 has won, side 1",
            "board 0a163c28", "pad a1b1", "book = 0", "pad a1a2", "book = 1", "book = 2", "next 0 = 3", "next 1 = 2", "next 2 = 0",
            "pad a1a2", "next 1 = 1", "board 0a183e56!", "pad e5d4", "book = 3", "next 0 = 1", "next 1 = 0", "next 2 = 1",
            "board 0a173e58", "pad a1b1", "book = 4", "next 0 = 1", "next 1|2 = 0");
        holds("the next MOVE played most often",
            "pad a1b3", "book = 0", "next 3 = a1b3", "next 4 = 1", "pad a1c2", "book = 1", "next 3 = a1c2", "next 4 = 1",
            "pad a1b3e5d3", "book = 2", "next 3 = a1b3", "next 4 = 2", "pad a1c2e5c4", "book = 3", "next 3 = a1c2", "next 4 = 2");
        holds("the first by from, then to, of like ones",
            "board 0e171a173c59", "pad e1d1", "book = 0", "next 3 = e1d1", "pad a1b2", "book = 1", "next 3 = a1b2",
            "pad a1b1", "book = 2", "next 3 = a1b1", "next 4 = 1", "pad a1a2", "book = 3", "next 3 = a1b1",
            "pad e1d1", "book = 4", "next 3 = e1d1", "next 4 = 2", "pad a1b2", "book = 5", "next 3 = a1b2", "next 4 = 2");
        holds("next: the next MOVE (3; NONE), how often (4)",
            "next 3 = NONE", "next 4 = 0", "book = 0", "next 0 = 1", "next 3 = NONE", "next 4 = 0",
            "pad a1b3", "book = 1", "next 3 = a1b3", "next 4 = 1", "pad a1b3", "next 0 = 1", "next 3 = NONE", "next 4 = 0");
        holds("next behind 12 MOVES", "law 9 9 9 = 258", "pad " + TWELVE, "book = 0", "pad " + TWELVE.substring(0, 44),
            "next 0 = 1", "next 3 = d3e5", "pad " + TWELVE, "next 0 = 1", "next 3 = NONE", "next 4 = 0",
            "pad " + TWELVE.substring(0, 44) + "d3e1", "next 0 = 0");
        holds("next: OUTSIDE", "next 0|1|2|4 = 0", "next 3 = NONE", "next -1|5|LEAST|GREATEST = OUTSIDE");
        holds("next: NO: there is a FAULT (a GAME that is not good is none)",
            "book = 0", "pad a", "next 0|1|2|3|4 = NO", "pad a1b", "next 0 = NO", "pad a1b3e", "next 0 = NO", "pad a6", "next 0 = NO",
            "pad a1a1", "next 0 = 0", "next 3 = NONE");
    }

    private static void draws() {
        // The moves of a1: b1, a2, and b2, which takes the father. 75 times 873 and 74 is 65549: the first above 65537.
        holds("DRAWS: x becomes (75 x and 74) left over by 65537; that numbered x left over by how many there are",
            "board 0a173b29", "drawn 0|1|872 0 = 1", "drawn 873|9999 0 = 3", "drawn 0|872|873|9999 1 = 1");
        holds("DRAWS: a seed x (0 to 9999)",
            "drawn 0 0 = 2", "drawn 0 1 = 14", "drawn -1|10000|LEAST|GREATEST 0|1 = OUTSIDE", "board 0a173b29", "drawn 9999 0 = 3");
        holds("drawn: 0, 1; OUTSIDE", "drawn 0|9999 -1|2|LEAST|GREATEST = OUTSIDE", "drawn 0 1 = 14");
        holds("DRAWS when it is OVER: no MOVE",
            "board 0a183e57", "drawn 0|9999 0 = 2", "drawn 0|9999 1 = 0", "board 0a173e58!", "drawn 0 0 = 1", "drawn 0 1 = 0",
            "board 0a183e58", "drawn 0 0 = 3", "drawn 0 1 = 0", "board 0a173b204d50", "pad a1b2", "play = 1", "drawn 0 0 = 1", "drawn 0 1 = 0");
        holds("DRAWS where there is one MOVE", "board 0a171a292b293e59", "moves -1 = 1", "drawn 0|9999 0 = 3", "drawn 0|9999 1 = 1",
            "board 0a161a292b293e59", "moves -1 = 1", "drawn 0|9999 0|1 = 1");
        holds("DRAWS leave THE BOARD as it is", "drawn 0 1 = 14", "man 0 0 = 0", "man 0 1 = 0", "state 0 = 0", "drawn 0 1 = 14");
        drawsLikeTheModel("0a103e50", 258);
        drawsLikeTheModel(SIX, 999);
        drawsLikeTheModel(SIX + "!", 99);
        drawsLikeTheModel("0b133d411c272a365e53", 9);
    }

    // Men grow still: no game can last for 60 moves, and each ends as it is OVER.
    private static void drawsLikeTheModel(String text, int law) {
        Model model = new Model();
        Rows rows = holds("DRAWS: MOVE by MOVE, 60 at most: " + text + " " + law, "board " + text,
            "law " + law / 100 + " " + law / 10 % 10 + " " + law % 10 + " = 258");
        model.pad = text;
        model.call("lay");
        model.call("law", law / 100, law / 10 % 10, law % 10);
        int[] seeds = {0, 1, 2, 9, 10, 99, 100, 872, 873, 874, 999, 1000, 1747, 5000, 8191, 8192, 9990, 9997, 9998, 9999};
        for (int seed : seeds) {
            for (int what = 0; what < 2; what++) {
                rows.due("drawn " + seed + " " + what, model.call("drawn", seed, what));
            }
            if (rows.ask("drawn " + seed + " 0") < 1 || rows.ask("drawn " + seed + " 1") > 54) {
                rows.complain("seed " + seed + " did not come to an end");
            }
        }
    }

    private static void mirrors() {
        holds("MIRRORED: THE BOARD with columns turned round (1)",
            "mirror 1 = 2", "man 0 0 = 4", "man 3 0 = 20", "board 0c333b47", "mirror 1 = 2", "man 0 0 = 12", "man 3 0 = 18");
        holds("MIRRORED: rows (2)",
            "mirror 2 = 2", "man 0 0 = 20", "man 3 0 = 4", "board 0c333b47", "mirror 2 = 2", "man 0 0 = 12", "man 3 0 = 6");
        holds("MIRRORED: both (3)",
            "mirror 3 = 2", "man 0 0 = 24", "man 3 0 = 0", "board 0c333b47", "mirror 3 = 2", "man 0 0 = 12", "man 3 0 = 8");
        for (int way = 1; way <= 3; way++) {
            Rows rows = holds("MIRRORED " + way + ": twice it is as it was; sides stay",
                "board 0a131b242c353e504d415e42!", "mirror " + way + " = 6", "state 0 = 1");
            for (int man = 0; man < 6; man++) {
                rows.due("man " + man + " 1", new int[] {3, 4, 5, 0, 1, 2}[man]);
            }
            rows.and("mirror " + way + " = 6");
            int[] cells = {0, 6, 12, 24, 18, 19};
            for (int man = 0; man < 6; man++) {
                rows.due("man " + man + " 0", cells[man]);
            }
        }
        holds("mirror: MEN that stand", "mirror 1 = 2", "man 1|2|4|5 0 = NONE", "board " + SIX, "mirror 2 = 6",
            "board 0a173b204d50", "pad a1b2", "play = 1", "mirror 3 = 2", "man 3 0 = NONE", "man 0 0 = 18");
        holds("mirror: ways 1 to 3; OUTSIDE", "mirror 0|4|-1|LEAST|GREATEST = OUTSIDE", "man 0 0 = 0", "man 3 0 = 24",
            "mirror 1 = 2", "mirror 3 = 2", "man 0 0 = 20");
        holds("mirror: the PAD, THE LAW and THE BOOK stay", "book = 0", "law 1 2 3 = 258", "pad a1b3", "mirror 2 = 2", "told 0 = 4",
            "told 1 = 1", "told 2 = 1", "told 3 = 2", "told 4 = 3");
    }

    private static void likes() {
        holds("LIKE: as it is, or some way MIRRORED (ways 0 to 3 as bits)",
            "board 0a103b20", "pad 0a103b20", "like = 1", "pad 0e103d20", "like = 2", "pad 0a503b40", "like = 4", "pad 0e503d40", "like = 8",
            "pad 0a103d20", "like = 0");
        holds("LIKE: more ways than one",
            "board 0c103c20", "pad 0c103c20", "like = 3", "pad 0c503c40", "like = 12", "board 0a303b30", "pad 0a303b30", "like = 5",
            "pad 0e303d30", "like = 10", "board 0c303c20", "pad 0c303c20", "like = 3", "board 0c303b30", "pad 0c303b30", "like = 5");
        holds("LIKE: sides stay, and so do AGES, the TURN and who stands",
            "board 0a103b20", "pad 3a100b20", "like = 0", "board 0a103e50", "pad 0e503a10", "like = 8", "pad 0a103e51", "like = 0", "pad 0a113e50", "like = 0",
            "pad 0a103e50!", "like = 0", "pad 0a103e501c30", "like = 0", "pad 3e500a10", "like = 1",
            "board 0a101c303e50!", "pad 0a103e50!", "like = 0", "pad 0a102c303e50!", "like = 0", "pad 1c303e500a10!", "like = 1");
        holds("LIKE where a FATHER has fallen", "board 0a173b204d50", "pad a1b2", "play = 1", "pad 0b283a104d50!", "like = 0");
        holds("like: NO: there is a FAULT", "like = NO", "pad 0a10", "like = NO", "told 0 = 4", "pad 0a103e5", "like = NO", "pad 0a103e50x", "like = NO",
            "pad a1b3", "like = NO", "pad 0a103e50", "like = 1", "told 0 = 8", "lay = 2");
    }

    private static void images() {
        holds("restore: STATE: it was not kept", "restore 0|1 = STATE", "image 1 = 1", "restore 0 = STATE", "restore 1 = 1", "image 0 = 1",
            "restore 0|1 = 1");
        holds("image: (0, 1); OUTSIDE", "image -1|2|LEAST|GREATEST = OUTSIDE", "restore 0|1 = STATE", "image 0|1 = 1", "restore 0|1 = 1");
        holds("restore: OUTSIDE", "image 0|1 = 1", "restore -1|2|LEAST|GREATEST = OUTSIDE");
        holds("All but the PAD is kept: the BOARD, AGES and the TURN",
            "board 0b213d424c33!", "pad a1", "image 0 = 1", "told 0 = 2", "board " + SIX, "pad abc", "restore 0 = 1", "told 0 = 3",
            "told 10 = 6", "told 11|12|15 = NONE", "told 13 = 18", "told 14 = 12", "told 20 = 1", "told 23 = 2", "told 24 = 3",
            "told 21|22|25 = 0", "state 0 = 1");
        holds("All but the PAD is kept: THE LAW", "law 1 2 3 = 258", "image 0 = 1", "law 9 9 9 = 123", "image 1 = 1", "law 0 0 0 = 999",
            "restore 0 = 1", "told 2 = 1", "told 3 = 2", "told 4 = 3", "restore 1 = 1", "told 2|3|4 = 9");
        holds("THE LAW restored is the one by which men go", "board 0a173e58", "image 0 = 1", "law 0 0 0 = 258", "stands = 1", "state 1 = 3",
            "keys 1 -1 = 0", "restore 0 = 1", "stands = 4", "state 1 = 0", "moves -1 = 3");
        holds("All but the PAD is kept: THE BOOK, empty and full",
            "image 0 = 1", "book = 0", "book = 1", "book = 2", "book = 3", "book = 4", "book = 5", "book = 6", "pad a1b3", "book = 7",
            "image 1 = 1", "restore 0 = 1", "told 1 = 0", "booked 0 0 = UNKNOWN", "next 0 = 0", "pad a1c2", "book = 0", "booked 0 10 = a1c2",
            "restore 1 = 1", "told 1 = 8", "booked 0 10 = NONE", "booked 7 10 = a1b3", "book = FULL", "restore 0 = 1", "told 1 = 0", "book = 0");
        holds("All but the PAD is kept: the GAMES of THE BOOK, what they brought and from which BOARD",
            "image 1 = 1", "board 0a163e58", "pad a1b1", "book = 0", "image 0 = 1", "restore 1 = 1", "pad a1b3e5d3", "book = 0", "image 1 = 1",
            "booked 0 0 = 2", "booked 0 1 = 0", "booked 0 10 = a1b3", "next 0 = 1", "restore 0 = 1", "booked 0 0|1 = 1",
            "booked 0 10 = a1b1", "booked 0 11 = NONE", "next 0|1 = 1", "next 3 = a1b1", "board 0a103e50", "next 0 = 0",
            "restore 1 = 1", "booked 0 0 = 2", "booked 0 1 = 0", "booked 0 11 = e5d3", "next 0 = 1", "next 1 = 0", "next 3 = a1b3",
            "board 0a163e58", "next 0 = 0");
        holds("It is as it was when it was kept, not as it was later",
            "image 0 = 1", "board 0b203d40", "image 1 = 1", "restore 0 = 1", "man 0 0 = 0", "pad a1b3", "play = 1", "restore 0 = 1",
            "man 0 0 = 0", "restore 1 = 1", "man 0 0 = 6", "image 0 = 1", "mirror 1 = 2", "restore 0 = 1", "man 0 0 = 6");
        holds("the PAD stays as it is, and is still read", "pad a1b3", "image 0 = 1", "board 0b203d40", "pad a1c2", "restore 0 = 1",
            "judge 0 = NONE", "play = 1", "man 0 0 = 7");
        holds("an IMAGE is kept of a BOARD where a FATHER has fallen", "board 0a173b204d50", "pad a1b2", "play = 1", "image 1 = 1",
            "board 0a103e50", "restore 1 = 1", "state 1 = 1", "man 3 0 = NONE", "man 3 1 = 0", "man 4 0 = 23");
    }

    private static void tellings() {
        holds("told: 0 signs", "told 0 = 0", "say 33 = 1", "told 0 = 1", "pad " + "z".repeat(48), "told 0 = 48");
        holds("told: 1 GAMES of THE BOOK", "told 1 = 0", "book = 0", "told 1 = 1");
        holds("told: 2 to 4 THE LAW", "told 2 = 2", "told 3 = 5", "told 4 = 8", "law 0 4 9 = 258", "told 2 = 0", "told 3 = 4", "told 4 = 9");
        holds("told: 10 to 15 CELLS of MEN (NONE)", "told 10 = 0", "told 13 = 24", "told 11|12|14|15 = NONE", "board 0a101b202c303d404e505a50",
            "told 10 = 0", "told 11 = 6", "told 12 = 12", "told 13 = 18", "told 14 = 24", "told 15 = 20");
        holds("told: 20 to 25 AGES", "told 20|21|22|23|24|25 = 0", "board 0a191b282c373d464e555a54",
            "told 20 = 9", "told 21 = 8", "told 22 = 7", "told 23 = 6", "told 24 = 5", "told 25 = 4");
        holds("told: OUTSIDE", "told -1|5|6|9|16|19|26|LEAST|GREATEST = OUTSIDE");
    }

    public static void main(String[] args) {
        books();
        booked();
        begun();
        draws();
        mirrors();
        likes();
        images();
        tellings();
        end("the bounds of part 4 hold");
    }
}
