// The boundary cases of part 2 and of how men go (promises 10 to 14), a test for each sentence that names one.
public final class MoveBounds extends Rows {
    private static final int BOY = 0, GROWN = 1, OLD = 2;
    private static final String TWELVE = "a1c2e5d3c2a1d3e5a1c2e5d3c2a1d3e5a1c2e5d3c2a1d3e5";

    private MoveBounds() {
        super("");
    }

    private static boolean goesSo(int kind, int from, int to) {
        int columns = Math.abs(from % 5 - to % 5);
        int lines = Math.abs(from / 5 - to / 5);
        switch (kind) {
            case BOY: return columns * lines == 2;
            case GROWN: return (columns == 0) != (lines == 0);
            default: return Math.max(columns, lines) == 1;
        }
    }

    // The other father is still, in a corner, where he stands between none.
    private static void fromEveryCell(String sentence, int kind, int age) {
        for (int from = 0; from < 25; from++) {
            Rows rows = holds(sentence, "board 0" + text(from) + age + "3" + (from == 0 ? "e5" : "a1") + "9");
            int count = 0;
            int bits = 0;
            for (int to = 0; to < 25; to++) {
                boolean so = goesSo(kind, from, to);
                rows.pad(text(from) + text(to));
                rows.due("judge 0", so ? -6 : 0);
                rows.due("judge 1", so ? -6 : 4);
                if (so) {
                    rows.due("moves " + count, 100 * from + to);
                    count++;
                    bits |= 1 << to;
                }
            }
            rows.due("moves -1", count);
            rows.due("moves " + count, -6);
            rows.due("reach 0", bits);
        }
    }

    private static void howTheyGo() {
        fromEveryCell("A BOY jumps: one CELL one way and two the other", BOY, 0);
        fromEveryCell("A BOY at his last AGE", BOY, 1);
        fromEveryCell("A GROWN one goes straight (column or row)", GROWN, 2);
        fromEveryCell("A GROWN one at his last AGE", GROWN, 4);
        fromEveryCell("An OLD one goes one CELL, also slantwise", OLD, 5);
        fromEveryCell("An OLD one at his last AGE", OLD, 7);
        holds("A BOY jumps over whatever stands there",
            "board 0a101b192a294b293c195a39", "moves -1 = 2", "moves 0 = a1c2", "moves 1 = a1b3", "youth 0 1 = 2");
        holds("A GROWN one goes as far as no man stands between",
            "board 0c331e394a393c59", "moves -1 = 7", "moves 0 = c3c1", "moves 1 = c3c2", "moves 2 = c3a3",
            "moves 3 = c3b3", "moves 4 = c3d3", "moves 5 = c3c4", "moves 6 = c3c5", "moves 7 = NONE",
            "board 0b331e493d594a39", "reach 0 = {b1 b2 a3 c3 d3 e3 b4 b5}", "board 3b334e490d395a39!", "reach 1 = {b1 b2 c3 d3 b4 b5}",
            "moves -1 = 6", "pad b3e3", "judge 1 = 5", "pad b3d3", "judge 1 = NONE", "pad b3a3", "judge 1 = 6",
            "board 0c331d392c494b393c29", "moves -1 = 2", "moves 0 = c3c2", "moves 1 = c3b3",
            "pad c3a3", "judge 1 = 5", "pad c3c1", "judge 1 = 5", "pad c3e3", "judge 1 = 5", "pad c3c5", "judge 1 = 5");
        holds("STILL ones do not go",
            "board 0c381a103e50", "pad c3c4", "judge 1 = 3", "pad c3e4", "judge 1 = 3", "pad c3e3", "judge 1 = 3",
            "board 0c391a103e50", "pad c3c4", "judge 1 = 3", "moves 0 = a1c2", "youth 0 1 = 1",
            "law 0 0 0 = 258", "board 0c303e50", "reach 0|1 = 0", "moves -1 = 0");
        holds("None goes to a CELL where one of his side stands",
            "board 0a101c202b393e59", "moves 0 = c2e1", "pad a1c2", "judge 1 = 6", "pad a1b3", "judge 1 = 6",
            "board 0a131b193e59", "moves -1 = 4", "moves 0 = a1a2", "pad a1b1", "judge 1 = 6",
            "board 0a171b293e59", "moves -1 = 2", "moves 0 = a1b1", "moves 1 = a1a2", "pad a1b2", "judge 1 = 6");
        holds("one of the other side there is taken",
            "board 0a103b394e59", "pad a1b3", "play = 1", "man 3 0 = NONE", "on 11 = 0", "man 4 0 = 24",
            "board 0a133e594a59", "pad a1a5", "play = 1", "man 4 0 = NONE", "on 20 = 0", "man 3 0 = 24", "state 1 = 1",
            "board 0a173e594b29", "pad a1b2", "play = 1", "man 4 0 = NONE", "on 6 = 0", "man 3 0 = 24");
        holds("Who goes is 1 older then",
            "board 0a101b143e56", "pad a1c2", "play = 1", "man 0 1 = 1", "man 1 1 = 4", "man 3 1 = 6",
            "pad e5e4", "play = 1", "man 0 1 = 1", "man 1 1 = 4", "man 3 1 = 7");
        holds("Who goes is 1 older then (9 at most)",
            "law 9 9 9 = 258", "board 0a183e50", "pad a1c2", "play = 1", "man 0 1 = 9", "man 0 2 = 3",
            "pad e5d3", "play = 1", "pad c2a1", "judge 1 = 1", "play = NO", "man 0 1 = 9", "state 1 = 2");
    }

    private static void why() {
        holds("1 it is OVER, whatever else there is",
            "board 0a183e58", "pad c3c4", "judge 0 = 0", "judge 1 = 1", "pad a1a2", "judge 1 = 1", "pad a1a1", "judge 1 = 1",
            "pad e5e4", "judge 1 = 1", "board 0a173b204d50", "pad a1b2", "play = 1", "pad d5c3", "judge 1 = 1",
            "pad b2b3", "judge 1 = 1", "pad", "judge 0|1 = NONE");
        holds("2 no MAN of the side whose TURN it is stands there",
            "pad b1b2", "judge 1 = 2", "pad e5d3", "judge 1 = 2", "pad e5e5", "judge 1 = 2",
            "board 0a103e58", "pad e5d5", "judge 1 = 2", "board 0a103e50!", "pad a1b3", "judge 1 = 2", "pad e5d3", "judge 1 = NONE",
            "board 0a102c103e50", "pad c1d3", "judge 1 = NONE", "board 0a103e505c10!", "pad c1d3", "judge 1 = NONE",
            "pad a1b3", "judge 1 = 2");
        holds("3 he is STILL, ahead of 4, 5, 6",
            "board 0a181b102c103e50", "pad a1a2", "judge 1 = 3", "pad a1c5", "judge 1 = 3", "pad a1a1", "judge 1 = 3",
            "pad a1b1", "judge 1 = 3", "pad a1c1", "judge 1 = 3", "pad a1d1", "judge 1 = 3");
        holds("4 he does not go so, ahead of 6",
            "board 0a101a203e50", "pad a1a2", "judge 1 = 4", "board 0a131b203e50", "pad a1b2", "judge 1 = 4",
            "board 0a171c103e50", "pad a1c1", "judge 1 = 4", "board 0a171b103e50", "pad a1c1", "judge 1 = 4");
        holds("5 one stands between, ahead of 6",
            "board 0a131b102c103e50", "pad a1c1", "judge 1 = 5", "pad a1b1", "judge 1 = 6", "pad a1d1", "judge 1 = 5",
            "board 0a134b102c103e50", "pad a1c1", "judge 1 = 5", "pad a1b1", "judge 1 = NONE",
            "board 0a134a402a503e50", "pad a1a5", "judge 1 = 5", "pad a1a4", "judge 1 = NONE", "pad a1a3", "judge 1 = NONE");
        holds("6 one of his side stands there",
            "board 0a101b303e50", "pad a1b3", "judge 1 = 6", "board 0a131a503e50", "pad a1a5", "judge 1 = 6",
            "board 0a171b203e50", "pad a1b2", "judge 1 = 6", "board 0a103e504d30!", "pad e5d3", "judge 1 = 6");
        holds("the first MOVE that may not be (from 0 on)",
            "law 9 9 9 = 258", "pad " + TWELVE, "judge 0|1 = NONE", "pad " + TWELVE.substring(0, 44) + "d3d3", "judge 0 = 11",
            "judge 1 = 4", "pad " + TWELVE.substring(0, 44) + "a1c2", "judge 0 = 11", "judge 1 = 2",
            "pad a1a2e5e4", "judge 0 = 0", "pad a1c2e5e4c2c3", "judge 0 = 1");
        holds("each MOVE of a GAME finds the MEN as old as those ahead of it made them",
            "pad " + TWELVE, "judge 0 = 4", "judge 1 = 4", "pad " + TWELVE.substring(0, 16), "judge 0 = NONE",
            "pad " + TWELVE.substring(0, 16) + "a1a5", "judge 0 = NONE");
        holds("judge: NONE: it is good (an empty GAME, too)", "judge 0|1 = NONE", "board 0a183e58", "judge 0|1 = NONE");
        holds("judge: OUTSIDE; NO: there is a FAULT",
            "judge -1|2|LEAST|GREATEST = OUTSIDE", "pad a", "judge 0|1 = NO", "pad a1b", "judge 0|1 = NO",
            "pad a1b3e", "judge 0|1 = NO", "pad a1b6", "judge 0|1 = NO", "pad 0a103e50", "judge 0|1 = NO");
    }

    private static void playing() {
        holds("play: MOVES, the PAD is empty then",
            "play = 0", "told 0 = 0", "pad a1c2", "play = 1", "told 0 = 0", "man 0 0 = 7", "state 0 = 1");
        holds("play: 12 MOVES",
            "law 9 9 9 = 258", "pad " + TWELVE, "play = 12", "told 0 = 0", "man 0 1 = 6", "man 3 1 = 6", "man 0 0 = 0",
            "man 3 0 = 24", "state 0 = 0");
        holds("play: NO: there is a FAULT",
            "pad a1b", "play = NO", "told 0 = 3", "pad a1b3e", "play = NO", "told 0 = 5", "man 0 0 = 0", "state 0 = 0");
        holds("play: NO: it is not good (no MOVE of it is made)",
            "pad a1b3e5e4", "play = NO", "told 0 = 8", "man 0 0 = 0", "man 0 1 = 0", "state 0 = 0",
            "pad a1a2", "play = NO", "told 0 = 4", "man 0 0 = 0");
        holds("play: a GAME may end with what makes it OVER, and not go on behind it",
            "board 0a173b204d50", "pad a1b2d5c3", "judge 0 = 1", "judge 1 = 1", "play = NO", "pad a1b2", "play = 1", "state 1 = 1",
            "pad", "play = 0", "board 0a163e58", "pad a1b1", "play = 1", "state 1 = 1");
    }

    private static void movesAndReach() {
        holds("MOVES that may be: by MEN, then by CELLS to which",
            "board 0e171c172a173c59", "moves -1 = 11", "moves 0 = e1d1", "moves 1 = e1d2", "moves 2 = e1e2", "moves 3 = c1b1",
            "moves 4 = c1d1", "moves 5 = c1b2", "moves 6 = c1c2", "moves 7 = c1d2", "moves 8 = a1b1", "moves 9 = a1a2",
            "moves 10 = a1b2", "moves 11 = NONE");
        holds("moves: 24 MOVES, as many as there can be",
            "board 0b231c432d323e59", "moves -1 = 24", "moves 23 = d3d5", "moves 24 = NONE", "moves 0 = b2b1");
        holds("moves: how many (i = -1; 0: it is OVER)",
            "moves -1 = 2", "board 0a183e57", "moves -1 = 0", "moves 0 = NONE", "board 0a183e58", "moves -1 = 0", "moves 0 = NONE",
            "board 0a173b204d50", "pad a1b2", "play = 1", "moves -1 = 0", "moves 0 = NONE");
        holds("moves: the i-th; NONE",
            "moves 0 = a1c2", "moves 1 = a1b3", "moves 2|3|24|25|-2|-3|LEAST|GREATEST = NONE");
        holds("REACH of a side: the first CELL and the last one are bits 0 and 24",
            "board 0d473e59", "reach 0 = {c3 d3 e3 c4 e4 c5 d5 e5}", "board 0e593b27", "reach 1 = {a1 b1 c1 a2 c2 a3 b3 c3}",
            "reach 0 = 0");
        holds("REACH of a side: as far as no man stands between, of either side",
            "board 0b331d393c39", "reach 0 = {b1 b2 a3 c3 b4 b5}", "board 3b334d390c39", "reach 1 = {b1 b2 a3 c3 b4 b5}",
            "board 0b331c393d39", "reach 0 = {b1 b2 a3 b4 b5}", "board 3b334c390d39", "reach 1 = {b1 b2 a3 b4 b5}");
        holds("REACH of a side (as if it were its TURN)",
            "reach 0 = {c2 b3}", "reach 1 = {d3 c4}", "board 0a103e50!", "reach 0 = {c2 b3}", "reach 1 = {d3 c4}",
            "board 0a193e50", "reach 0 = 0", "reach 1 = {d3 c4}");
        holds("reach: OUTSIDE", "reach -1|2|LEAST|GREATEST = OUTSIDE");
    }

    private static void youths() {
        holds("YOUTH: how many AGES its MEN have left till they are STILL",
            "board 0a173e58", "youth 0 0 = 1", "youth 1 0 = 0", "board 0a193e50", "youth 0 0 = 0", "youth 1 0 = 8",
            "board 0a191b173e50", "youth 0 0 = 1", "law 9 9 9 = 258", "youth 0 0 = 2", "youth 1 0 = 9",
            "law 0 0 0 = 999", "youth 0|1 0 = 0");
        holds("YOUTH: its MEN that stand",
            "youth 0|1 0 = 8", "board 0a101b102c103e504d505c50", "youth 0|1 0 = 24", "board 0a173b204d50", "youth 1 0 = 16",
            "pad a1b2", "play = 1", "youth 1 0 = 8", "youth 0 0 = 0");
        holds("how many of its MEN that stand can not move, be it its TURN or not",
            "youth 0|1 1 = 0", "board 0a173e58", "youth 0 1 = 0", "youth 1 1 = 1", "board 0a173e58!", "youth 0 1 = 0", "youth 1 1 = 1",
            "board 0a131a292b193e59", "youth 0 1 = 3", "youth 1 1 = 1", "board 0a131a293e59", "youth 0 1 = 1",
            "board 0a103e504c495d39!", "youth 0 1 = 0", "youth 1 1 = 3");
        holds("youth: OUTSIDE", "youth -1|2|LEAST|GREATEST 0|1 = OUTSIDE", "youth 0|1 -1|2|LEAST|GREATEST = OUTSIDE");
    }

    public static void main(String[] args) {
        howTheyGo();
        why();
        playing();
        movesAndReach();
        youths();
        end("the bounds of part 2 hold");
    }
}
