import java.util.ArrayList;
import java.util.Arrays;
import java.util.HashMap;
import java.util.HashSet;
import java.util.List;
import java.util.Map;
import java.util.Random;
import java.util.Set;

// Random runs of calls against a second model of the document: slow, with lists, texts and recursion.
public final class ModelRuns {
    private static final int UNKNOWN = -1, OUTSIDE = -2, STATE = -3, FULL = -4, NO = -5, NONE = -6;

    static final class Board {
        final int[] column = new int[6];
        final int[] line = new int[6];
        final int[] age = new int[6];
        int turn = 0;

        Board() {
            Arrays.fill(column, -1);
            Arrays.fill(line, -1);
        }

        Board copy() {
            Board b = new Board();
            System.arraycopy(column, 0, b.column, 0, 6);
            System.arraycopy(line, 0, b.line, 0, 6);
            System.arraycopy(age, 0, b.age, 0, 6);
            b.turn = turn;
            return b;
        }

        boolean up(int man) {
            return column[man] >= 0;
        }

        int who(int c, int l) {
            for (int man = 0; man < 6; man++) {
                if (up(man) && column[man] == c && line[man] == l) {
                    return man;
                }
            }
            return NONE;
        }

        int count() {
            int n = 0;
            for (int man = 0; man < 6; man++) {
                n += up(man) ? 1 : 0;
            }
            return n;
        }

        String text() {
            return Arrays.toString(column) + Arrays.toString(line) + Arrays.toString(age) + turn;
        }
    }

    static final class Game {
        Board start;
        List<Integer> moves;
        int brought;
    }

    static final class Model {
        String pad = "";
        Board board = new Board();
        int[] law = {2, 5, 8};
        List<Game> book = new ArrayList<>();
        Object[][] images = new Object[2][];

        Model() {
            board.column[0] = 0;
            board.line[0] = 0;
            board.column[3] = 4;
            board.line[3] = 4;
        }

        int kind(int age) {
            int k = 0;
            while (k < 3 && age >= law[k]) {
                k++;
            }
            return k;
        }

        // 0: he may go there; else the reason, from 3 on.
        int why(Board b, int man, int c, int l) {
            int dc = Math.abs(c - b.column[man]);
            int dl = Math.abs(l - b.line[man]);
            int k = kind(b.age[man]);
            if (k == 3) {
                return 3;
            }
            boolean so = k == 0 ? dc * dl == 2 : k == 1 ? (dc == 0) != (dl == 0) : dc <= 1 && dl <= 1 && dc + dl > 0;
            if (!so) {
                return 4;
            }
            if (k == 1) {
                int sc = Integer.signum(c - b.column[man]);
                int sl = Integer.signum(l - b.line[man]);
                for (int x = b.column[man] + sc, y = b.line[man] + sl; x != c || y != l; x += sc, y += sl) {
                    if (b.who(x, y) != NONE) {
                        return 5;
                    }
                }
            }
            int there = b.who(c, l);
            return there != NONE && there / 3 == man / 3 ? 6 : 0;
        }

        List<int[]> goings(Board b, int side) {
            List<int[]> out = new ArrayList<>();
            for (int man = 3 * side; man < 3 * side + 3; man++) {
                for (int cell = 0; cell < 25 && b.up(man); cell++) {
                    if (why(b, man, cell % 5, cell / 5) == 0) {
                        out.add(new int[] {man, cell});
                    }
                }
            }
            return out;
        }

        int brought(Board b) {
            if (!b.up(0)) {
                return 2;
            }
            if (!b.up(3)) {
                return 1;
            }
            if (!goings(b, b.turn).isEmpty()) {
                return 0;
            }
            if (goings(b, 1 - b.turn).isEmpty()) {
                return 3;
            }
            return b.turn == 0 ? 2 : 1;
        }

        List<int[]> may(Board b) {
            return brought(b) != 0 ? new ArrayList<>() : goings(b, b.turn);
        }

        Board go(Board b, int man, int cell) {
            Board n = b.copy();
            int there = b.who(cell % 5, cell / 5);
            if (there != NONE) {
                n.column[there] = -1;
                n.line[there] = -1;
                n.age[there] = 0;
            }
            n.column[man] = cell % 5;
            n.line[man] = cell / 5;
            n.age[man] = Math.min(9, b.age[man] + 1);
            n.turn = 1 - b.turn;
            return n;
        }

        int told(Board b, int[] move) {
            return 100 * (b.column[move[0]] + 5 * b.line[move[0]]) + move[1];
        }

        // The texts of boards and games.

        int fault(int how) {
            if (how < 0 || how > 1) {
                return OUTSIDE;
            }
            return how == 0 ? boardFault() : gameFault();
        }

        int gameFault() {
            for (int i = 0; i < pad.length(); i++) {
                if ((i % 2 == 0 ? "abcde" : "12345").indexOf(pad.charAt(i)) < 0) {
                    return i;
                }
            }
            return pad.length() % 4 == 0 ? NONE : pad.length();
        }

        int boardFault() {
            Set<Character> men = new HashSet<>();
            Set<String> cells = new HashSet<>();
            int i = 0;
            while (i < pad.length()) {
                if (pad.charAt(i) == '!') {
                    i++;
                    if (i < pad.length()) {
                        return i;
                    }
                    break;
                }
                String[] sets = {"012345", "abcde", "12345", "0123456789"};
                for (int k = 0; k < 4; k++) {
                    if (i + k >= pad.length()) {
                        return pad.length();
                    }
                    char sign = pad.charAt(i + k);
                    if (sets[k].indexOf(sign) < 0 || k == 0 && !men.add(sign)
                            || k == 2 && !cells.add(pad.substring(i + 1, i + 3))) {
                        return i + k;
                    }
                }
                i += 4;
            }
            return men.contains('0') && men.contains('3') ? NONE : pad.length();
        }

        Board boardTold() {
            Board b = new Board();
            for (int i = 0; i + 3 < pad.length(); i += 4) {
                int man = pad.charAt(i) - '0';
                b.column[man] = pad.charAt(i + 1) - 'a';
                b.line[man] = pad.charAt(i + 2) - '1';
                b.age[man] = pad.charAt(i + 3) - '0';
            }
            b.turn = pad.endsWith("!") ? 1 : 0;
            return b;
        }

        List<Integer> gameTold() {
            List<Integer> out = new ArrayList<>();
            for (int i = 0; i < pad.length(); i += 4) {
                int from = pad.charAt(i) - 'a' + 5 * (pad.charAt(i + 1) - '1');
                int to = pad.charAt(i + 2) - 'a' + 5 * (pad.charAt(i + 3) - '1');
                out.add(100 * from + to);
            }
            return out;
        }

        Board end;

        int[] judged() {
            end = board;
            int i = 0;
            for (int move : gameTold()) {
                int from = move / 100;
                int to = move % 100;
                if (brought(end) != 0) {
                    return new int[] {i, 1};
                }
                int man = end.who(from % 5, from / 5);
                if (man == NONE || man / 3 != end.turn) {
                    return new int[] {i, 2};
                }
                int why = why(end, man, to % 5, to / 5);
                if (why != 0) {
                    return new int[] {i, why};
                }
                end = go(end, man, to);
                i++;
            }
            return new int[] {NONE, NONE};
        }

        boolean good() {
            return gameFault() == NONE && judged()[0] == NONE;
        }

        // Solved: what it brings, by how many moves, the best move.

        final Map<String, int[]> memo = new HashMap<>();
        boolean full;

        int[] solved(Board b) {
            String text = b.text();
            if (memo.containsKey(text)) {
                return memo.get(text);
            }
            memo.put(text, null);
            if (memo.size() > 20000) {
                full = true;
            }
            if (full) {
                return new int[] {0, 0, NONE};
            }
            int[] best = null;
            for (int[] move : may(b)) {
                int[] child = solved(go(b, move[0], move[1]));
                if (full) {
                    return child;
                }
                int what = child[0] == 0 ? 0 : 3 - child[0];
                int[] mine = {what, child[1] + 1, told(b, move)};
                if (best == null || better(mine, best)) {
                    best = mine;
                }
            }
            if (best == null) {
                int brought = brought(b);
                best = new int[] {brought == 3 ? 0 : brought - 1 == b.turn ? 1 : 2, 0, NONE};
            }
            memo.put(text, best);
            return best;
        }

        boolean better(int[] a, int[] b) {
            int[] rank = {1, 2, 0};
            if (rank[a[0]] != rank[b[0]]) {
                return rank[a[0]] > rank[b[0]];
            }
            return a[0] == 1 ? a[1] < b[1] : a[1] > b[1];
        }

        int[] solve(Board b) {
            memo.clear();
            full = false;
            int[] out = solved(b);
            return full ? null : out;
        }

        boolean winsIn(Board b, int n) {
            for (int[] move : may(b)) {
                if (key(b, move, n)) {
                    return true;
                }
            }
            return false;
        }

        boolean key(Board b, int[] move, int n) {
            Board after = go(b, move[0], move[1]);
            int brought = brought(after);
            if (brought != 0) {
                return brought == b.turn + 1;
            }
            if (n == 1) {
                return false;
            }
            for (int[] reply : may(after)) {
                if (!winsIn(go(after, reply[0], reply[1]), n - 1)) {
                    return false;
                }
            }
            return true;
        }

        List<Game> begun() {
            List<Integer> moves = gameTold();
            List<Game> out = new ArrayList<>();
            for (Game game : book) {
                if (game.start.text().equals(board.text()) && game.moves.size() >= moves.size()
                        && game.moves.subList(0, moves.size()).equals(moves)) {
                    out.add(game);
                }
            }
            return out;
        }

        Board mirrored(int way) {
            Board b = board.copy();
            for (int man = 0; man < 6; man++) {
                if (b.up(man)) {
                    b.column[man] = (way & 1) != 0 ? 4 - b.column[man] : b.column[man];
                    b.line[man] = way >= 2 ? 4 - b.line[man] : b.line[man];
                }
            }
            return b;
        }

        int call(String name, int... a) {
            switch (name) {
                case "say":
                    if (a[0] < 33 || a[0] > 126) {
                        return OUTSIDE;
                    }
                    if (pad.length() == 48) {
                        return FULL;
                    }
                    pad += (char) a[0];
                    return pad.length();
                case "wipe": {
                    int n = pad.length();
                    pad = "";
                    return n;
                }
                case "fault":
                    return fault(a[0]);
                case "lay":
                    if (boardFault() != NONE) {
                        return NO;
                    }
                    board = boardTold();
                    pad = "";
                    return board.count();
                case "law": {
                    for (int i = 0; i < 3; i++) {
                        if (a[i] < 0 || a[i] > 9 || i > 0 && a[i] < a[i - 1]) {
                            return OUTSIDE;
                        }
                    }
                    int before = 100 * law[0] + 10 * law[1] + law[2];
                    law = a.clone();
                    return before;
                }
                case "man":
                    if (a[0] < 0 || a[0] > 5) {
                        return UNKNOWN;
                    }
                    if (a[1] < 0 || a[1] > 2) {
                        return OUTSIDE;
                    }
                    return a[1] == 0 ? cellOf(a[0]) : a[1] == 1 ? board.age[a[0]] : kind(board.age[a[0]]);
                case "on":
                    return a[0] < 0 || a[0] > 24 ? UNKNOWN : board.who(a[0] % 5, a[0] / 5);
                case "state":
                    return a[0] == 0 ? board.turn : a[0] == 1 ? brought(board) : OUTSIDE;
                default:
                    return callMoves(name, a);
            }
        }

        int cellOf(int man) {
            return board.up(man) ? board.column[man] + 5 * board.line[man] : NONE;
        }

        int callMoves(String name, int[] a) {
            switch (name) {
                case "judge":
                    if (a[0] < 0 || a[0] > 1) {
                        return OUTSIDE;
                    }
                    return gameFault() != NONE ? NO : judged()[a[0]];
                case "play": {
                    if (!good()) {
                        return NO;
                    }
                    int n = pad.length() / 4;
                    board = end;
                    pad = "";
                    return n;
                }
                case "moves": {
                    List<int[]> may = may(board);
                    return a[0] == -1 ? may.size() : a[0] < 0 || a[0] >= may.size() ? NONE : told(board, may.get(a[0]));
                }
                case "reach": {
                    if (a[0] < 0 || a[0] > 1) {
                        return OUTSIDE;
                    }
                    int bits = 0;
                    for (int[] move : goings(board, a[0])) {
                        bits |= 1 << move[1];
                    }
                    return bits;
                }
                case "youth":
                    return a[0] < 0 || a[0] > 1 || a[1] < 0 || a[1] > 1 ? OUTSIDE : youth(a[0], a[1]);
                default:
                    return callSolved(name, a);
            }
        }

        int youth(int side, int what) {
            int years = 0;
            Set<Integer> going = new HashSet<>();
            for (int[] move : goings(board, side)) {
                going.add(move[0]);
            }
            int up = 0;
            for (int man = 3 * side; man < 3 * side + 3; man++) {
                if (board.up(man)) {
                    up++;
                    for (int age = board.age[man]; kind(age) < 3; age++) {
                        years++;
                    }
                }
            }
            return what == 0 ? years : up - going.size();
        }

        int callSolved(String name, int[] a) {
            switch (name) {
                case "stands":
                    return solve(board) == null ? FULL : memo.size();
                case "solve": {
                    if (a[0] < 0 || a[0] > 2) {
                        return OUTSIDE;
                    }
                    int[] out = solve(board);
                    return out == null ? FULL : out[a[0]];
                }
                case "keys": {
                    if (a[0] < 1 || a[0] > 2) {
                        return OUTSIDE;
                    }
                    List<Integer> keys = new ArrayList<>();
                    for (int[] move : may(board)) {
                        if (key(board, move, a[0])) {
                            keys.add(told(board, move));
                        }
                    }
                    return a[1] == -1 ? keys.size() : a[1] < 0 || a[1] >= keys.size() ? NONE : keys.get(a[1]);
                }
                case "even": {
                    if (a[0] < 0 || a[0] > 5 || !board.up(a[0])) {
                        return UNKNOWN;
                    }
                    int bits = 0;
                    for (int age = 0; age < 10; age++) {
                        Board b = board.copy();
                        b.age[a[0]] = age;
                        int[] out = solve(b);
                        bits |= out != null && out[0] == 0 ? 1 << age : 0;
                    }
                    return bits;
                }
                default:
                    return callBook(name, a);
            }
        }

        int callBook(String name, int[] a) {
            switch (name) {
                case "book": {
                    if (!good()) {
                        return NO;
                    }
                    if (book.size() == 8) {
                        return FULL;
                    }
                    Game game = new Game();
                    game.start = board.copy();
                    game.moves = gameTold();
                    game.brought = brought(end);
                    book.add(game);
                    pad = "";
                    return book.size() - 1;
                }
                case "booked": {
                    if (a[0] < 0 || a[0] >= book.size()) {
                        return UNKNOWN;
                    }
                    Game game = book.get(a[0]);
                    if (a[1] == 0 || a[1] == 1) {
                        return a[1] == 0 ? game.moves.size() : game.brought;
                    }
                    int k = a[1] - 10;
                    return a[1] < 10 || a[1] > 21 ? OUTSIDE : k < game.moves.size() ? game.moves.get(k) : NONE;
                }
                case "next":
                    return a[0] < 0 || a[0] > 4 ? OUTSIDE : gameFault() != NONE ? NO : next(a[0]);
                case "drawn":
                    return a[0] < 0 || a[0] > 9999 || a[1] < 0 || a[1] > 1 ? OUTSIDE : drawn(a[0], a[1]);
                default:
                    return callRest(name, a);
            }
        }

        int next(int what) {
            List<Game> begun = begun();
            if (what == 0) {
                return begun.size();
            }
            if (what < 3) {
                int won = 0;
                for (Game game : begun) {
                    won += game.brought == what ? 1 : 0;
                }
                return won;
            }
            int[] times = new int[2500];
            for (Game game : begun) {
                if (game.moves.size() > gameTold().size()) {
                    times[game.moves.get(gameTold().size())]++;
                }
            }
            int most = 0;
            for (int move = 0; move < 2500; move++) {
                most = times[move] > times[most] ? move : most;
            }
            return what == 4 ? times[most] : times[most] == 0 ? NONE : most;
        }

        int drawn(int seed, int what) {
            Board b = board;
            int n = 0;
            long x = seed;
            while (n < 60 && !may(b).isEmpty()) {
                x = (75 * x + 74) % 65537;
                List<int[]> may = may(b);
                int[] move = may.get((int) (x % may.size()));
                b = go(b, move[0], move[1]);
                n++;
            }
            return what == 0 ? brought(b) : n;
        }

        int callRest(String name, int[] a) {
            switch (name) {
                case "mirror":
                    if (a[0] < 1 || a[0] > 3) {
                        return OUTSIDE;
                    }
                    board = mirrored(a[0]);
                    return board.count();
                case "like": {
                    if (boardFault() != NONE) {
                        return NO;
                    }
                    int bits = 0;
                    for (int way = 0; way < 4; way++) {
                        bits |= mirrored(way).text().equals(boardTold().text()) ? 1 << way : 0;
                    }
                    return bits;
                }
                case "image":
                    if (a[0] < 0 || a[0] > 1) {
                        return OUTSIDE;
                    }
                    images[a[0]] = new Object[] {board.copy(), law.clone(), new ArrayList<>(book)};
                    return 1;
                case "restore":
                    if (a[0] < 0 || a[0] > 1) {
                        return OUTSIDE;
                    }
                    if (images[a[0]] == null) {
                        return STATE;
                    }
                    board = ((Board) images[a[0]][0]).copy();
                    law = ((int[]) images[a[0]][1]).clone();
                    book = new ArrayList<>();
                    for (Object game : (List<?>) images[a[0]][2]) {
                        book.add((Game) game);
                    }
                    return 1;
                default:
                    return told(a[0]);
            }
        }

        int told(int what) {
            if (what >= 10 && what <= 15) {
                return cellOf(what - 10);
            }
            if (what >= 20 && what <= 25) {
                return board.age[what - 20];
            }
            return what == 0 ? pad.length() : what == 1 ? book.size() : what >= 2 && what <= 4 ? law[what - 2] : OUTSIDE;
        }
    }

    static int real(AgingMen x, String name, int... a) {
        switch (name) {
            case "say": return x.say(a[0]);
            case "wipe": return x.wipe();
            case "fault": return x.fault(a[0]);
            case "lay": return x.lay();
            case "law": return x.law(a[0], a[1], a[2]);
            case "man": return x.man(a[0], a[1]);
            case "on": return x.on(a[0]);
            case "state": return x.state(a[0]);
            case "judge": return x.judge(a[0]);
            case "play": return x.play();
            case "moves": return x.moves(a[0]);
            case "reach": return x.reach(a[0]);
            case "youth": return x.youth(a[0], a[1]);
            case "stands": return x.stands();
            case "solve": return x.solve(a[0]);
            case "keys": return x.keys(a[0], a[1]);
            case "even": return x.even(a[0]);
            case "book": return x.book();
            case "booked": return x.booked(a[0], a[1]);
            case "next": return x.next(a[0]);
            case "drawn": return x.drawn(a[0], a[1]);
            case "mirror": return x.mirror(a[0]);
            case "like": return x.like();
            case "image": return x.image(a[0]);
            case "restore": return x.restore(a[0]);
            default: return x.told(a[0]);
        }
    }

    static final class Run {
        final AgingMen x = new AgingMen();
        final Model model = new Model();
        final Random random;
        final List<String> done = new ArrayList<>();
        boolean wrong = false;

        Run(long seed) {
            random = new Random(seed);
        }

        int pick(int bound) {
            return random.nextInt(bound);
        }

        // Mostly a number that is as told, now and then one beside it, seldom an odd one.
        int near(int low, int high) {
            int[] odd = {Integer.MIN_VALUE, Integer.MAX_VALUE, -7, 1000, low - 1, high + 1};
            return pick(12) == 0 ? odd[pick(odd.length)] : low + pick(high - low + 1);
        }

        void call(String name, int... a) {
            if (wrong || done.size() >= 512) {
                return;
            }
            int want = model.call(name, a);
            int got = real(x, name, a);
            done.add(name + Arrays.toString(a) + " -> " + got);
            if (got != want) {
                wrong = true;
                System.out.println(String.join("\n", done) + "\ndue is " + want);
            }
        }

        void write(String text) {
            call("wipe");
            for (int i = 0; i < text.length(); i++) {
                call("say", text.charAt(i));
            }
        }

        String boardText(int young) {
            List<Integer> men = new ArrayList<>(List.of(0, 3));
            for (int man : new int[] {1, 2, 4, 5}) {
                if (pick(2) == 0) {
                    men.add(pick(men.size() + 1), man);
                }
            }
            Set<String> cells = new HashSet<>();
            StringBuilder out = new StringBuilder();
            for (int man : men) {
                String cell = "";
                do {
                    cell = "" + (char) ('a' + pick(5)) + (char) ('1' + pick(5));
                } while (!cells.add(cell));
                out.append(man).append(cell).append(young + pick(10 - young));
            }
            return out + (pick(2) == 0 ? "!" : "");
        }

        String spoiled(String text) {
            if (text.isEmpty() || pick(6) != 0) {
                return text;
            }
            int at = pick(text.length());
            String signs = "abcdef0123456789!zA";
            return text.substring(0, at) + (pick(2) == 0 ? "" : "" + signs.charAt(pick(signs.length())))
                + text.substring(at + pick(2));
        }

        String gameText() {
            StringBuilder out = new StringBuilder();
            Board b = model.board;
            int length = pick(6) == 0 ? 12 : pick(4);
            for (int i = 0; i < length; i++) {
                List<int[]> may = model.may(b);
                if (may.isEmpty()) {
                    break;
                }
                int[] move = may.get(pick(3) == 0 ? 0 : pick(may.size()));
                int told = model.told(b, move);
                if (pick(20) == 0) {
                    told = told / 100 * 100 + pick(25);
                }
                out.append(cell(told / 100)).append(cell(told % 100));
                b = model.go(b, move[0], move[1]);
            }
            return out.toString();
        }

        String cell(int cell) {
            return "" + (char) ('a' + cell % 5) + (char) ('1' + cell / 5);
        }

        void newLaw() {
            int[] ages = {pick(10), pick(10), pick(10)};
            if (pick(8) != 0) {
                Arrays.sort(ages);
                ages[2] = Math.max(ages[2], pick(10));
            }
            call("law", pick(20) == 0 ? near(0, 9) : ages[0], ages[1], pick(20) == 0 ? near(0, 9) : ages[2]);
        }

        void ask() {
            switch (pick(16)) {
                case 0: call("man", near(0, 5), near(0, 2)); break;
                case 1: call("on", near(0, 24)); break;
                case 2: call("state", near(0, 1)); break;
                case 3: call("fault", near(0, 1)); break;
                case 4: call("judge", near(0, 1)); break;
                case 5: call("moves", near(-1, 10)); break;
                case 6: call("reach", near(0, 1)); break;
                case 7: call("youth", near(0, 1), near(0, 1)); break;
                case 8: call("keys", near(1, 2), near(-1, 5)); break;
                case 9: call("booked", near(0, 7), pick(3) == 0 ? near(0, 1) : near(10, 21)); break;
                case 10: call("next", near(0, 4)); break;
                case 11: call("drawn", near(0, 9999), near(0, 1)); break;
                case 12: call("like"); break;
                case 13: call("told", near(0, 25)); break;
                case 14: call("solve", pick(20) == 0 ? near(0, 2) : pick(3)); break;
                default: call("stands"); break;
            }
        }

        void change() {
            switch (pick(13)) {
                case 0: newLaw(); break;
                case 1: case 2: write(spoiled(boardText(pick(4) == 0 ? 4 : 6))); call("lay"); break;
                case 3: write(spoiled(gameText())); call("judge", 0); call("judge", 1); call("play"); break;
                case 4: case 5: case 6: write(spoiled(gameText())); call("book"); break;
                case 7: write(gameText()); break;
                case 8: call("mirror", near(1, 3)); break;
                case 9: call("image", near(0, 1)); break;
                case 10: call("restore", near(0, 1)); break;
                case 11: call(pick(2) == 0 ? "play" : "book"); break;
                default: call("say", near(33, 126)); break;
            }
        }

        void likeRound() {
            write(boardText(6));
            call("lay");
            StringBuilder text = new StringBuilder();
            for (int man = 0; man < 6; man++) {
                int cell = model.cellOf(man);
                if (cell != NONE) {
                    text.append(man).append(cell(cell)).append(model.board.age[man]);
                }
            }
            call("mirror", 1 + pick(3));
            write(text + (model.board.turn == 1 ? "!" : ""));
            call("like");
        }

        void deepRound() {
            write(boardText(pick(3) == 0 ? 5 : 6));
            call("lay");
            call("stands");
            for (int what = 0; what < 3; what++) {
                call("solve", what);
            }
            for (int n = 1; n < 3; n++) {
                call("keys", n, -1);
                call("keys", n, 0);
                call("keys", n, near(0, 12));
            }
        }
    }

    private static boolean passes(long seed) {
        Run run = new Run(seed);
        if (seed % 2 == 0) {
            run.newLaw();
        }
        for (int i = 0; i < 60 && !run.wrong; i++) {
            int kind = run.pick(20);
            if (kind == 0) {
                run.likeRound();
            } else if (kind < 4) {
                run.deepRound();
            } else if (kind < 10) {
                run.change();
            } else {
                run.ask();
            }
        }
        if (seed % 8 == 0 && !run.wrong) {
            run.write(run.boardText(6));
            run.call("lay");
            run.call("even", run.near(0, 5));
            run.call("even", 0);
            run.call("stands");
        }
        return !run.wrong;
    }

    public static void main(String[] args) {
        int runs = args.length > 0 ? Integer.parseInt(args[0]) : 120;
        for (long seed = 0; seed < runs; seed++) {
            if (!passes(seed)) {
                System.out.println("run " + seed + " went wrong");
                System.exit(1);
            }
        }
        System.out.println("all " + runs + " runs are as the model tells");
    }
}
