// The promises one by one, with answers worked out by hand from the document.
public final class PromiseTests {
    private static final int UNKNOWN = -1, OUTSIDE = -2, STATE = -3, FULL = -4, NO = -5, NONE = -6;
    private static final int LEAST = Integer.MIN_VALUE, GREATEST = Integer.MAX_VALUE;
    private static int wrong = 0;

    private static void due(String call, int got, int want) {
        if (got != want) {
            wrong++;
            System.out.println(call + " answered " + got + ", due is " + want);
        }
    }

    private static void write(AgingMen x, String text) {
        x.wipe();
        for (int i = 0; i < text.length(); i++) {
            due("say " + text + " " + i, x.say(text.charAt(i)), i + 1);
        }
    }

    private static AgingMen board(String text) {
        AgingMen x = new AgingMen();
        lay(x, text);
        return x;
    }

    private static void lay(AgingMen x, String text) {
        write(x, text);
        due("lay " + text, x.lay(), text.length() / 4);
    }

    private static int cell(String told) {
        return told.charAt(0) - 'a' + 5 * (told.charAt(1) - '1');
    }

    private static int move(String told) {
        return 100 * cell(told) + cell(told.substring(2));
    }

    private static int cells(String... told) {
        int bits = 0;
        for (String one : told) {
            bits |= 1 << cell(one);
        }
        return bits;
    }

    private static void newObject() {
        AgingMen x = new AgingMen();
        int[] at = {0, NONE, NONE, 24, NONE, NONE};
        for (int man = 0; man < 6; man++) {
            due("new man " + man, x.man(man, 0), at[man]);
            due("new age " + man, x.man(man, 1), 0);
        }
        due("new law", x.law(2, 5, 8), 258);
        due("new turn", x.state(0), 0);
        due("new state", x.state(1), 0);
        due("new signs", x.told(0), 0);
        due("new book", x.told(1), 0);
        due("new booked", x.booked(0, 0), UNKNOWN);
        due("new restore 0", x.restore(0), STATE);
        due("new restore 1", x.restore(1), STATE);
    }

    private static void sayAndWipe() {
        AgingMen x = new AgingMen();
        due("wipe empty", x.wipe(), 0);
        int[] bad = {32, 127, 0, -1, 256 + 48, LEAST, GREATEST};
        for (int sign : bad) {
            due("say " + sign, x.say(sign), OUTSIDE);
        }
        due("say 33", x.say(33), 1);
        due("say 126", x.say(126), 2);
        for (int i = 3; i <= 48; i++) {
            due("say " + i, x.say(97), i);
        }
        due("say full", x.say(97), FULL);
        due("say outside when full", x.say(32), OUTSIDE);
        due("signs when full", x.told(0), 48);
        due("wipe", x.wipe(), 48);
        due("wipe again", x.wipe(), 0);
        due("say after wipe", x.say(97), 1);
    }

    private static void faultOf(String text, int how, int want) {
        AgingMen x = new AgingMen();
        write(x, text);
        due("fault " + text + " " + how, x.fault(how), want);
        due("signs stay " + text, x.told(0), text.length());
    }

    private static void faults() {
        String[] boards = {"", "0", "6", "a", "0f", "0A", "01", "0a", "0a6", "0a0", "0aa", "0a1", "0a1x", "0a1!",
            "0a10", "0a10!", "!", "!0", "0a103e50", "0a103e50!", "0a103e50!!", "0a103e50!1", "0a103a1", "0a100",
            "0a103e50?", "0a103e501b1", "0a103e501b102c204d405e40", "0a103e501b102c204d405e40!",
            "0a103e501b102c204d405e400", "1a102b204c205d30", "5a194e590c283d47", "0a103e501e5", "0a103e503"};
        int[] at = {0, 1, 0, 0, 1, 1, 1, 2, 2, 2, 2, 3, 3, 3,
            4, 5, 1, 1, NONE, NONE, 9, 9, 6, 4,
            8, 11, NONE, NONE,
            24, 16, NONE, 10, 8};
        for (int i = 0; i < boards.length; i++) {
            faultOf(boards[i], 0, at[i]);
        }
        String dozen = "a1b2c3d4e5a1b2c3d4e5a1b2c3d4e5a1b2c3d4e5a1b2c3d4";
        String[] games = {"", "a", "a1", "a1b", "a1b2", "a1a1", "f", "1", "a6", "a0", "aa", "a1b0", "a1b2!", "a1b2c", dozen};
        int[] where = {NONE, 1, 2, 3, NONE, NONE, 0, 0, 1, 1, 1, 3, 4, 5, NONE};
        for (int i = 0; i < games.length; i++) {
            faultOf(games[i], 1, where[i]);
        }
        AgingMen x = new AgingMen();
        int[] hows = {-1, 2, LEAST, GREATEST};
        for (int how : hows) {
            due("fault how " + how, x.fault(how), OUTSIDE);
        }
    }

    private static void laying() {
        AgingMen x = board("0b253d471c39!");
        due("lay cell 0", x.man(0, 0), cell("b2"));
        due("lay age 0", x.man(0, 1), 5);
        due("lay cell 3", x.man(3, 0), cell("d4"));
        due("lay age 3", x.man(3, 1), 7);
        due("lay cell 1", x.man(1, 0), cell("c3"));
        due("lay turn", x.state(0), 1);
        due("lay signs", x.told(0), 0);
        write(x, "0a103e5");
        due("lay fault", x.lay(), NO);
        due("lay fault signs stay", x.told(0), 7);
        due("lay fault board stays", x.man(0, 0), cell("b2"));
        due("lay fault turn stays", x.state(0), 1);
        x.say('0');
        due("lay mended", x.lay(), 2);
        due("lay who went", x.man(1, 0), NONE);
        due("lay age of who went", x.man(1, 1), 0);
        due("lay turn back", x.state(0), 0);
        due("lay law stays", x.law(1, 2, 3), 258);
        lay(x, "0a103e50");
        due("lay law stays changed", x.law(2, 5, 8), 123);
        lay(x, "5e104e203e302a101a200a30!");
        due("lay six", x.on(cell("e1")), 5);
    }

    private static void laws() {
        AgingMen x = new AgingMen();
        due("law", x.law(0, 0, 0), 258);
        due("law 0", x.law(9, 9, 9), 0);
        due("law 9", x.law(1, 4, 4), 999);
        int[][] bad = {{-1, 5, 8}, {2, 1, 8}, {2, 5, 4}, {2, 5, 10}, {10, 10, 10}, {LEAST, 0, 0}, {0, 0, GREATEST},
            {0, GREATEST, 9}, {-1, -1, -1}, {0, LEAST, 9}};
        for (int[] one : bad) {
            due("law bad", x.law(one[0], one[1], one[2]), OUTSIDE);
        }
        due("law stays", x.law(2, 5, 8), 144);
    }

    private static void men() {
        AgingMen x = new AgingMen();
        int[] kinds = {0, 0, 1, 1, 1, 2, 2, 2, 3, 3};
        for (int age = 0; age <= 9; age++) {
            lay(x, "0c3" + age + "3e50");
            due("man age " + age, x.man(0, 1), age);
            due("man kind " + age, x.man(0, 2), kinds[age]);
        }
        due("man away kind", x.man(5, 2), 0);
        x.law(0, 0, 0);
        due("man away kind still", x.man(5, 2), 3);
        x.law(0, 0, 1);
        due("man away kind old", x.man(5, 2), 2);
        x.law(0, 1, 1);
        due("man away kind grown", x.man(5, 2), 1);
        int[] bad = {-1, 6, LEAST, GREATEST};
        for (int man : bad) {
            due("man " + man, x.man(man, 0), UNKNOWN);
            due("man first " + man, x.man(man, 3), UNKNOWN);
        }
        int[] whats = {-1, 3, LEAST, GREATEST};
        for (int what : whats) {
            due("man what " + what, x.man(0, what), OUTSIDE);
        }
    }

    private static void cellsOn() {
        AgingMen x = board("0a101b203e504d40");
        for (int cell = 0; cell < 25; cell++) {
            int who = cell == 0 ? 0 : cell == 6 ? 1 : cell == 24 ? 3 : cell == 18 ? 4 : NONE;
            due("on " + cell, x.on(cell), who);
        }
        int[] bad = {-1, 25, 31, LEAST, GREATEST};
        for (int cell : bad) {
            due("on " + cell, x.on(cell), UNKNOWN);
        }
    }

    private static void stateOf(String text, int turn, int brought) {
        AgingMen x = board(text);
        due("turn " + text, x.state(0), turn);
        due("state " + text, x.state(1), brought);
        due("moves if over " + text, x.moves(-1) == 0 ? 1 : 0, brought == 0 ? 0 : 1);
    }

    private static void states() {
        stateOf("0a103e50", 0, 0);
        stateOf("0a103e59", 0, 0);
        stateOf("0a193e50", 0, 2);
        stateOf("0a193e50!", 1, 0);
        stateOf("0a103e59!", 1, 1);
        stateOf("0a193e59", 0, 3);
        stateOf("0a193e59!", 1, 3);
        stateOf("0a131a292b193e59", 0, 3);
        stateOf("0a131a293e59", 0, 0);
        stateOf("0a191a203e59", 0, 0);
        AgingMen x = board("0a173b20");
        write(x, "a1b2");
        due("take father 3", x.play(), 1);
        due("father 3 taken", x.state(1), 1);
        due("father 3 taken turn", x.state(0), 1);
        x = board("0a103a28!");
        x.law(2, 5, 9);
        write(x, "a2a1");
        due("take father 0", x.play(), 1);
        due("father 0 taken", x.state(1), 2);
        due("father 0 taken turn", x.state(0), 0);
        int[] bad = {-1, 2, LEAST, GREATEST};
        for (int what : bad) {
            due("state " + what, x.state(what), OUTSIDE);
        }
    }

    private static void judgeOf(String text, String game, int at, int why) {
        AgingMen x = board(text);
        write(x, game);
        due("judge " + text + " " + game, x.judge(0), at);
        due("why " + text + " " + game, x.judge(1), why);
        due("judge leaves signs", x.told(0), game.length());
        if (at == NONE) {
            due("play " + game, x.play(), game.length() / 4);
            due("play empties", x.told(0), 0);
        } else {
            due("play bad " + game, x.play(), NO);
            due("play bad leaves signs", x.told(0), game.length());
            due("book bad " + game, x.book(), NO);
        }
    }

    private static void judging() {
        judgeOf("0a103e50", "", NONE, NONE);
        judgeOf("0a193e50", "", NONE, NONE);
        judgeOf("0a193e50", "a1b3", 0, 1);
        judgeOf("0a193e59", "c3c4", 0, 1);
        judgeOf("0a103e50", "a2a3", 0, 2);
        judgeOf("0a103e50", "e5d3", 0, 2);
        judgeOf("0a103e50!", "a1b3", 0, 2);
        judgeOf("0a191b103e50", "a1a2", 0, 3);
        judgeOf("0a191b103e50", "a1a1", 0, 3);
        judgeOf("0a191b103e50", "a1b1", 0, 3);
        judgeOf("0a103e50", "a1a2", 0, 4);
        judgeOf("0a103e50", "a1a1", 0, 4);
        judgeOf("0a133e50", "a1b2", 0, 4);
        judgeOf("0a133e50", "a1a1", 0, 4);
        judgeOf("0a163e50", "a1a3", 0, 4);
        judgeOf("0a163e50", "a1a1", 0, 4);
        judgeOf("0e133e50", "e1a2", 0, 4);
        judgeOf("0e163e50", "e1a2", 0, 4);
        judgeOf("0e103e50", "e1b2", 0, 4);
        judgeOf("0a131a303e50", "a1a4", 0, 5);
        judgeOf("0a131a302a403e50", "a1a4", 0, 5);
        judgeOf("0a131c103e50", "a1e1", 0, 5);
        judgeOf("0e534c503a50", "e5a5", 0, 5);
        judgeOf("0a131a303e50", "a1a3", 0, 6);
        judgeOf("0a101b303e50", "a1b3", 0, 6);
        judgeOf("0a161b203e50", "a1b2", 0, 6);
        judgeOf("0a101a202b203e50", "a1b3", NONE, NONE);
        judgeOf("0a133a50", "a1a5", NONE, NONE);
        judgeOf("0a133a50", "a1a5a5a4", 1, 1);
        judgeOf("0a113e50", "a1b3e5d3b3b5", NONE, NONE);
        judgeOf("0a113e50", "a1b3e5d3b3c5", 2, 4);
        judgeOf("0a103e50", "a1b3b3c5", 1, 2);
        judgeOf("0a101a203e50", "a1c2e5c4a2c2", 2, 4);
        judgeOf("0a101a203e50", "a1b3e5c4a2c4", 2, 4);
        judgeOf("0a101a203e50", "a1c2e5d3a2c3c3d5", 3, 2);
        judgeOf("0a101a303e50", "a1c2e5d3a3c2", 2, 6);
        AgingMen x = new AgingMen();
        write(x, "a1b");
        due("judge fault", x.judge(0), NO);
        due("why fault", x.judge(1), NO);
        due("play fault", x.play(), NO);
        due("book fault", x.book(), NO);
        int[] bad = {-1, 2, LEAST, GREATEST};
        for (int what : bad) {
            due("judge " + what, x.judge(what), OUTSIDE);
        }
    }

    private static void playing() {
        AgingMen x = board("0a111d403e504c50");
        write(x, "a1b3e5d3d4b5");
        due("play three", x.play(), 3);
        due("play cell 0", x.man(0, 0), cell("b3"));
        due("play age 0", x.man(0, 1), 2);
        due("play age 3", x.man(3, 1), 1);
        due("play age 1", x.man(1, 1), 1);
        due("play turn", x.state(0), 1);
        due("play stays away", x.man(4, 0), cell("c5"));
        write(x, "c5b3");
        due("play takes", x.play(), 1);
        due("play taken cell", x.man(0, 0), NONE);
        due("play taken age", x.man(0, 1), 0);
        due("play taker", x.on(cell("b3")), 4);
        due("play over", x.state(1), 2);
        write(x, "");
        due("play nothing", x.play(), 0);
        // Men could still go, but a father has fallen.
        x = board("0a161e163b204d50");
        write(x, "a1b2");
        due("play takes father", x.play(), 1);
        due("no moves without a father", x.moves(-1), 0);
        due("no move without a father", x.moves(0), NONE);
        due("reach without a father", x.reach(1), cells("b4", "c3", "e3"));
        due("blocked without a father", x.youth(1, 1), 0);
        write(x, "d5c3");
        due("judge without a father", x.judge(1), 1);
        due("stands without a father", x.stands(), 1);
        due("drawn without a father", x.drawn(0, 1), 0);
        x = board("0a183e50");
        x.law(0, 0, 9);
        write(x, "a1b2");
        due("play last year", x.play(), 1);
        due("play oldest", x.man(0, 1), 9);
        due("play oldest still", x.man(0, 2), 3);
    }

    private static void movesOf(String text, String... want) {
        AgingMen x = board(text);
        due("moves " + text, x.moves(-1), want.length);
        for (int i = 0; i < want.length; i++) {
            due("move " + text + " " + i, x.moves(i), move(want[i]));
        }
        int[] none = {want.length, -2, LEAST, GREATEST, 24, 25};
        for (int i : none) {
            due("no move " + i, x.moves(i), NONE);
        }
    }

    private static void listing() {
        movesOf("0a103e50", "a1c2", "a1b3");
        movesOf("0a103e50!", "e5d3", "e5c4");
        movesOf("0a193e50");
        movesOf("0c301b293e59", "c3b1", "c3d1", "c3a2", "c3e2", "c3a4", "c3e4", "c3b5", "c3d5");
        movesOf("0c331c293d304e595a30", "c3a3", "c3b3", "c3d3", "c3c4", "c3c5");
        movesOf("0a172b101a293e59", "a1b2", "b1d2", "b1a3", "b1c3");
        movesOf("0e551e452d453a10", "e5d5", "e4d3", "e4e3", "e4d5", "d4c3", "d4d3", "d4e3", "d4c4", "d4c5", "d4d5");
    }

    private static void reaching() {
        AgingMen x = board("0a101b173e504d59");
        due("reach 0", x.reach(0), cells("c2", "b3", "c1", "a2", "b2"));
        due("reach 1", x.reach(1), cells("d3", "c4"));
        lay(x, "0a131c193e594a39");
        due("reach grown", x.reach(0), cells("b1", "a2", "a3"));
        due("reach still", x.reach(1), 0);
        lay(x, "0a193e51");
        due("reach other side when over", x.reach(1), cells("d3", "c4"));
        int[] bad = {-1, 2, LEAST, GREATEST};
        for (int side : bad) {
            due("reach " + side, x.reach(side), OUTSIDE);
        }
    }

    private static void youths() {
        AgingMen x = board("0a131a292b193e504d57");
        due("youth 0", x.youth(0, 0), 5);
        due("youth 1", x.youth(1, 0), 9);
        due("blocked 0", x.youth(0, 1), 3);
        due("blocked 1", x.youth(1, 1), 0);
        x.law(0, 0, 0);
        due("youth none", x.youth(1, 0), 0);
        due("blocked all", x.youth(1, 1), 2);
        x.law(9, 9, 9);
        due("youth most", x.youth(1, 0), 11);
        due("youth 0 most", x.youth(0, 0), 6);
        int[] bad = {-1, 2, LEAST, GREATEST};
        for (int number : bad) {
            due("youth side " + number, x.youth(number, 0), OUTSIDE);
            due("youth what " + number, x.youth(0, number), OUTSIDE);
        }
    }

    private static void solvedOf(String text, int stands, int brings, int length, int best) {
        AgingMen x = board(text);
        due("stands " + text, x.stands(), stands);
        due("solve " + text, x.solve(0), brings);
        due("solve moves " + text, x.solve(1), length);
        due("solve best " + text, x.solve(2), best);
    }

    private static final String YOUNG = "0a101b102c103e504d505c50";

    private static void solving() {
        solvedOf("0a193e59", 1, 0, 0, NONE);
        solvedOf("0a193e50", 1, 2, 0, NONE);
        solvedOf("0a173e59", 4, 0, 1, move("a1b1"));
        // Each step of the old father but that to a2 lets the other one take him; then both are still.
        solvedOf("0a173c27", 28, 0, 2, move("a1a2"));
        // With one year more the other one can still go when the father can not: lost either way.
        AgingMen x = board("0a173c26");
        due("lost", x.solve(0), 2);
        due("lost in two", x.solve(1), 2);
        due("lost, first of like ones", x.solve(2), move("a1b1"));
        x = board("0a173b27");
        due("won", x.solve(0), 1);
        due("won in one", x.solve(1), 1);
        due("won by taking", x.solve(2), move("a1b2"));
        x = board(YOUNG);
        due("stands full", x.stands(), FULL);
        for (int what = 0; what < 3; what++) {
            due("solve full " + what, x.solve(what), FULL);
        }
        int[] bad = {-1, 3, LEAST, GREATEST};
        for (int what : bad) {
            due("solve " + what, x.solve(what), OUTSIDE);
        }
        // Found by search: boards with just as many stands as can be gone through, and with one more.
        String[] most = {"0e473c312a44", "0d213b342a10!", "0a543b275a30!", "0d163c474e245c36!", "0b273a541a30"};
        for (String text : most) {
            x = board(text);
            due("stands at most " + text, x.stands(), 20000);
            due("solve at most " + text, x.solve(0) >= 0 ? 1 : 0, 1);
        }
        String[] tooMany = {"0c523c142a37", "0d193b562a245d36!", "0e323a342c17", "0c213b252a50", "0c543a134a37!"};
        for (String text : tooMany) {
            x = board(text);
            due("stands too many " + text, x.stands(), FULL);
            due("solve too many " + text, x.solve(0), FULL);
        }
        x = new AgingMen();
        due("stands of new", x.stands(), 7248);
        due("solve of new", x.solve(1), 16);
        x.law(0, 0, 0);
        due("stands after law", x.stands(), 1);
        x.law(2, 5, 8);
        due("stands after law back", x.stands(), 7248);
        write(x, "a1b3");
        x.play();
        due("stands are fewer after a move", x.stands() < 7248 ? 1 : 0, 1);
    }

    private static void problems() {
        AgingMen x = board("0a191d452e453e50");
        due("keys double", x.keys(1, -1), 2);
        due("keys 0", x.keys(1, 0), move("d4e5"));
        due("keys 1", x.keys(1, 1), move("e4e5"));
        int[] none = {2, -2, LEAST, GREATEST, 24};
        for (int i : none) {
            due("keys none " + i, x.keys(1, i), NONE);
        }
        due("keys in two hold those in one", x.keys(2, -1) >= 2 ? 1 : 0, 1);
        // After any move that leaves a year, the still father's side can not move.
        x = board("0a163e59");
        due("keys by blocking", x.keys(1, -1), 3);
        due("keys by blocking 0", x.keys(1, 0), move("a1b1"));
        x = board("0a173e59");
        due("keys of a draw", x.keys(2, -1), 0);
        due("keys of a draw 0", x.keys(2, 0), NONE);
        // a1b1 first, so that the other one has to spend his last year; taking is not needed.
        x = board("0a153e57");
        due("keys in one", x.keys(1, -1), 0);
        due("keys in two", x.keys(2, -1), 3);
        due("keys in two 2", x.keys(2, 2), move("a1b2"));
        x = board(YOUNG);
        due("keys where solve is full", x.keys(1, -1), 0);
        x = board("0a193e50");
        due("keys when over", x.keys(2, -1), 0);
        int[] bad = {-1, 0, 3, LEAST, GREATEST};
        for (int n : bad) {
            due("keys n " + n, x.keys(n, -1), OUTSIDE);
        }
    }

    private static void evens() {
        AgingMen x = board("0a173e59");
        due("even 0", x.even(0), 7 << 7);
        due("even 3", x.even(3), 7 << 7);
        due("even leaves the board", x.man(0, 1), 7);
        due("even leaves the stands", x.stands(), 4);
        int[] bad = {1, 2, 4, 5, -1, 6, LEAST, GREATEST};
        for (int man : bad) {
            due("even " + man, x.even(man), UNKNOWN);
        }
        x.law(0, 0, 0);
        due("even where none goes", x.even(0), 1023);
        x = board(YOUNG);
        due("even where all is full", x.even(0), 0);
    }

    private static void booking() {
        AgingMen x = board("0a133a50");
        String[] games = {"a1a5", "a1a2a5c4", "", "a1a2a5b3", "a1a2a5c4a2a3"};
        int[] brought = {1, 0, 0, 0, 0};
        for (int i = 0; i < games.length; i++) {
            write(x, games[i]);
            due("book " + i, x.book(), i);
            due("book empties", x.told(0), 0);
            due("booked moves " + i, x.booked(i, 0), games[i].length() / 4);
            due("booked brought " + i, x.booked(i, 1), brought[i]);
            for (int k = 0; k < 12; k++) {
                int want = 4 * k < games[i].length() ? move(games[i].substring(4 * k)) : NONE;
                due("booked " + i + " move " + k, x.booked(i, 10 + k), want);
            }
        }
        due("book leaves the board", x.man(0, 0), 0);
        due("next all", x.next(0), 5);
        due("next won 0", x.next(1), 1);
        due("next won 1", x.next(2), 0);
        due("next most", x.next(3), move("a1a2"));
        due("next times", x.next(4), 3);
        write(x, "a1a2a5c4");
        due("next two", x.next(0), 2);
        due("next after two", x.next(3), move("a2a3"));
        due("next after two times", x.next(4), 1);
        write(x, "a1a5");
        due("next at end", x.next(0), 1);
        due("next at end none", x.next(3), NONE);
        due("next at end times", x.next(4), 0);
        write(x, "e1e1");
        due("next of a game that is not good", x.next(0), 0);
        write(x, "e1");
        due("next fault", x.next(0), NO);
        due("next what first", x.next(5), OUTSIDE);
        x.wipe();
        x.mirror(1);
        due("next from another board", x.next(0), 0);
        x.mirror(1);
        due("next from this one again", x.next(0), 5);
        x.law(1, 1, 1);
        due("next under another law", x.next(0), 5);
        due("booked under another law", x.booked(0, 1), 1);
        int[] noGame = {-1, 5, 8, LEAST, GREATEST};
        for (int game : noGame) {
            due("booked game " + game, x.booked(game, 0), UNKNOWN);
            due("booked game first " + game, x.booked(game, 2), UNKNOWN);
        }
        int[] bad = {-1, 2, 9, 22, LEAST, GREATEST};
        for (int what : bad) {
            due("booked what " + what, x.booked(0, what), OUTSIDE);
        }
        int[] badNext = {-1, 5, LEAST, GREATEST};
        for (int what : badNext) {
            due("next what " + what, x.next(what), OUTSIDE);
        }
    }

    private static void bookEdges() {
        AgingMen x = board("0a193e50!");
        String[] games = {"e5d3", "e5c4", "e5d3", "e5c4"};
        for (int i = 0; i < 4; i++) {
            write(x, games[i]);
            due("book lost " + i, x.book(), i);
            due("book lost brought " + i, x.booked(i, 1), 2);
        }
        due("next won by side 1", x.next(2), 4);
        due("next the first of like ones", x.next(3), move("e5d3"));
        due("next the first of like ones, times", x.next(4), 2);
        lay(x, "0a193e59");
        due("next of the same men but for an age", x.next(0), 0);
        due("book of a drawn board", x.book(), 4);
        due("book of a drawn board brought", x.booked(4, 1), 3);
        lay(x, "0a193e50");
        due("next with the other turn", x.next(0), 0);
        for (int i = 5; i < 8; i++) {
            due("book " + i, x.book(), i);
        }
        due("book full", x.book(), FULL);
        write(x, "a1a2");
        due("book not good, full", x.book(), NO);
        due("book refused leaves signs", x.told(0), 4);
        due("books", x.told(1), 8);
        likeOnes();
        x = new AgingMen();
        x.law(9, 9, 9);
        write(x, "a1c2e5d3c2a1d3e5a1c2e5d3c2a1d3e5a1c2e5d3c2a1d3e5");
        due("book twelve", x.book(), 0);
        due("book twelve moves", x.booked(0, 0), 12);
        due("book twelve last", x.booked(0, 21), move("d3e5"));
        write(x, "a1c2e5d3c2a1d3e5a1c2e5d3c2a1d3e5a1c2e5d3c2a1d3e5");
        due("next twelve", x.next(0), 1);
        due("next behind twelve", x.next(3), NONE);
    }

    private static void likeOnes() {
        AgingMen x = new AgingMen();
        String[] games = {"a1b3", "a1c2", "a1b3", "a1b3e5d3", "a1b3e5c4"};
        int[] most = {move("a1b3"), move("a1c2"), move("a1b3"), move("a1b3"), move("a1b3")};
        int[] times = {1, 1, 2, 3, 4};
        for (int i = 0; i < games.length; i++) {
            write(x, games[i]);
            due("book like ones " + i, x.book(), i);
            due("next of like ones " + i, x.next(3), most[i]);
            due("next of like ones, times " + i, x.next(4), times[i]);
        }
        write(x, "a1c2");
        x.book();
        write(x, "a1b3");
        due("next behind a move", x.next(0), 4);
        due("next behind a move, of like ones", x.next(3), move("e5d3"));
        due("next behind a move, times", x.next(4), 1);
        due("images of a book", x.image(1), 1);
        for (int i = 0; i < 2; i++) {
            write(x, "a1c2e5d3");
            x.book();
        }
        x.restore(1);
        due("restored book", x.told(1), 6);
        due("restored fifth game", x.booked(4, 11), move("e5c4"));
        x = new AgingMen();
        write(x, "a1b3e5c4");
        x.book();
        x.image(0);
        for (int i = 1; i < 8; i++) {
            write(x, "a1c2");
            due("book " + i, x.book(), i);
        }
        x.image(1);
        x.restore(0);
        for (int i = 1; i < 8; i++) {
            write(x, "a1b3");
            due("book other " + i, x.book(), i);
        }
        x.restore(1);
        for (int i = 1; i < 8; i++) {
            due("restored game " + i, x.booked(i, 10), move("a1c2"));
        }
    }

    private static void draws() {
        AgingMen x = board("0a173e59");
        for (int seed = 0; seed < 5; seed++) {
            due("drawn " + seed, x.drawn(seed, 0), 3);
            due("drawn moves " + seed, x.drawn(seed, 1), 1);
        }
        due("drawn leaves the board", x.man(0, 0), 0);
        // Seed 0: x is 74, 74 left over by 3 is 2, the third move takes.
        x = board("0a173b20");
        due("drawn 0 by the third move", x.drawn(0, 0), 1);
        due("drawn 0 by the third move, moves", x.drawn(0, 1), 1);
        // The one move that may be is made, and the father can not go on.
        x = board("0a171a292b293e59");
        due("drawn by one move", x.drawn(3, 0), 3);
        due("drawn by one move, moves", x.drawn(3, 1), 1);
        x = board("0a193e50");
        due("drawn when over", x.drawn(9999, 0), 2);
        due("drawn when over, moves", x.drawn(9999, 1), 0);
        x = new AgingMen();
        due("drawn of new", x.drawn(0, 0), 2);
        due("drawn of new, moves", x.drawn(0, 1), 14);
        int[] badSeeds = {-1, 10000, LEAST, GREATEST};
        for (int seed : badSeeds) {
            due("drawn seed " + seed, x.drawn(seed, 0), OUTSIDE);
        }
        int[] bad = {-1, 2, LEAST, GREATEST};
        for (int what : bad) {
            due("drawn what " + what, x.drawn(0, what), OUTSIDE);
        }
    }

    private static void mirrors() {
        String[] want = {"", "d2", "b4", "d4"};
        for (int way = 1; way <= 3; way++) {
            AgingMen x = board("0b233e574c10!");
            due("mirror " + way, x.mirror(way), 3);
            due("mirror 0 " + way, x.man(0, 0), cell(want[way]));
            due("mirror 1 " + way, x.man(1, 0), NONE);
            due("mirror 4 " + way, x.man(4, 0), cell(way == 1 ? "c1" : "c5"));
            due("mirror age " + way, x.man(3, 1), 7);
            due("mirror turn " + way, x.state(0), 1);
            write(x, "0b233e574c10!");
            due("like mirrored " + way, x.like(), 1 << way);
            due("like leaves signs", x.told(0), 13);
        }
        AgingMen x = board("0c333c10");
        int[] bad = {-1, 0, 4, LEAST, GREATEST};
        for (int way : bad) {
            due("mirror " + way, x.mirror(way), OUTSIDE);
        }
        String[] texts = {"0c333c10", "3c100c33", "0c333c50", "0c333c10!", "0c343c10", "3c330c10", "0c333c101a10"};
        int[] bits = {3, 3, 12, 0, 0, 0, 0};
        for (int i = 0; i < texts.length; i++) {
            write(x, texts[i]);
            due("like " + texts[i], x.like(), bits[i]);
        }
        lay(x, "0c233c40");
        write(x, "0c233c40");
        due("like with columns turned", x.like(), 3);
        write(x, "0c233c4");
        due("like fault", x.like(), NO);
        x.wipe();
        due("like of nothing", x.like(), NO);
    }

    private static void images() {
        AgingMen x = board("0b233e574c10!");
        x.law(1, 2, 9);
        write(x, "e5e4");
        due("image book", x.book(), 0);
        write(x, "ab");
        due("image", x.image(0), 1);
        due("restore other", x.restore(1), STATE);
        lay(x, "0a103e50");
        x.law(2, 5, 8);
        due("book second", x.book(), 1);
        due("image 1", x.image(1), 1);
        write(x, "xyz");
        due("restore", x.restore(0), 1);
        due("restore leaves signs", x.told(0), 3);
        due("restore cell", x.man(0, 0), cell("b2"));
        due("restore age", x.man(0, 1), 3);
        due("restore man", x.man(4, 0), cell("c1"));
        due("restore turn", x.state(0), 1);
        due("restore law", x.law(0, 0, 0), 129);
        due("restore book", x.told(1), 1);
        due("restore game", x.booked(0, 10), move("e5e4"));
        x.wipe();
        due("book again", x.book(), 1);
        due("book again moves", x.booked(1, 0), 0);
        due("restore 1", x.restore(1), 1);
        due("restore 1 book", x.told(1), 2);
        due("restore 1 law", x.told(4), 8);
        due("restore 1 cell", x.man(0, 0), 0);
        due("restore twice", x.restore(0), 1);
        due("restore twice book", x.told(1), 1);
        int[] bad = {-1, 2, LEAST, GREATEST};
        for (int n : bad) {
            due("image " + n, x.image(n), OUTSIDE);
            due("restore " + n, x.restore(n), OUTSIDE);
        }
    }

    private static void tellings() {
        AgingMen x = board("0b233e574c18!");
        write(x, "abcde");
        x.law(1, 3, 7);
        int[] whats = {0, 1, 2, 3, 4, 10, 11, 12, 13, 14, 15, 20, 21, 22, 23, 24, 25};
        int[] want = {5, 0, 1, 3, 7, 6, NONE, NONE, 24, 2, NONE, 3, 0, 0, 7, 8, 0};
        for (int i = 0; i < whats.length; i++) {
            due("told " + whats[i], x.told(whats[i]), want[i]);
        }
        int[] bad = {-1, 5, 9, 16, 19, 26, LEAST, GREATEST};
        for (int what : bad) {
            due("told " + what, x.told(what), OUTSIDE);
        }
    }

    public static void main(String[] args) {
        newObject();
        sayAndWipe();
        faults();
        laying();
        laws();
        men();
        cellsOn();
        states();
        judging();
        playing();
        listing();
        reaching();
        youths();
        solving();
        problems();
        evens();
        booking();
        bookEdges();
        draws();
        mirrors();
        images();
        tellings();
        System.out.println(wrong == 0 ? "all promises hold" : wrong + " answers are not as due");
        if (wrong != 0) {
            System.exit(1);
        }
    }
}
