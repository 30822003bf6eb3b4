import java.util.ArrayList;
import java.util.Arrays;
import java.util.HashMap;
import java.util.HashSet;
import java.util.List;
import java.util.Map;
import java.util.Set;

/** A second model of the document, only for tests: slow, with lists, texts and recursion. */
final class Model {
    private static final int UNKNOWN = -1, OUTSIDE = -2, STATE = -3, FULL = -4, NO = -5, NONE = -6;

    static final class Board {
        final int[] column = new int[6];
        final int[] line = new int[6];
        final int[] age = new int[6];
        int turn = 0;

        Board() {
            Arrays.fill(column, -1);
            Arrays.fill(line, -1);
        }

        Board copy() {
            Board b = new Board();
            System.arraycopy(column, 0, b.column, 0, 6);
            System.arraycopy(line, 0, b.line, 0, 6);
            System.arraycopy(age, 0, b.age, 0, 6);
            b.turn = turn;
            return b;
        }

        boolean up(int man) {
            return column[man] >= 0;
        }

        int who(int c, int l) {
            for (int man = 0; man < 6; man++) {
                if (up(man) && column[man] == c && line[man] == l) {
                    return man;
                }
            }
            return NONE;
        }

        int count() {
            int n = 0;
            for (int man = 0; man < 6; man++) {
                n += up(man) ? 1 : 0;
            }
            return n;
        }

        String text() {
            return Arrays.toString(column) + Arrays.toString(line) + Arrays.toString(age) + turn;
        }
    }

    static final class Game {
        Board start;
        List<Integer> moves;
        int brought;
    }

    String pad = "";
    Board board = new Board();
    int[] law = {2, 5, 8};
    List<Game> book = new ArrayList<>();
    Object[][] images = new Object[2][];

    Model() {
        board.column[0] = 0;
        board.line[0] = 0;
        board.column[3] = 4;
        board.line[3] = 4;
    }

    int kind(int age) {
        int k = 0;
        while (k < 3 && age >= law[k]) {
            k++;
        }
        return k;
    }

    // 0: he may go there; else the reason, from 3 on.
    int why(Board b, int man, int c, int l) {
        int dc = Math.abs(c - b.column[man]);
        int dl = Math.abs(l - b.line[man]);
        int k = kind(b.age[man]);
        if (k == 3) {
            return 3;
        }
        boolean so = k == 0 ? dc * dl == 2 : k == 1 ? (dc == 0) != (dl == 0) : dc <= 1 && dl <= 1 && dc + dl > 0;
        if (!so) {
            return 4;
        }
        if (k == 1) {
            int sc = Integer.signum(c - b.column[man]);
            int sl = Integer.signum(l - b.line[man]);
            for (int x = b.column[man] + sc, y = b.line[man] + sl; x != c || y != l; x += sc, y += sl) {
                if (b.who(x, y) != NONE) {
                    return 5;
                }
            }
        }
        int there = b.who(c, l);
        return there != NONE && there / 3 == man / 3 ? 6 : 0;
    }

    List<int[]> goings(Board b, int side) {
        List<int[]> out = new ArrayList<>();
        for (int man = 3 * side; man < 3 * side + 3; man++) {
            for (int cell = 0; cell < 25 && b.up(man); cell++) {
                if (why(b, man, cell % 5, cell / 5) == 0) {
                    out.add(new int[] {man, cell});
                }
            }
        }
        return out;
    }

    int brought(Board b) {
        if (!b.up(0)) {
            return 2;
        }
        if (!b.up(3)) {
            return 1;
        }
        if (!goings(b, b.turn).isEmpty()) {
            return 0;
        }
        if (goings(b, 1 - b.turn).isEmpty()) {
            return 3;
        }
        return b.turn == 0 ? 2 : 1;
    }

    List<int[]> may(Board b) {
        return brought(b) != 0 ? new ArrayList<>() : goings(b, b.turn);
    }

    Board go(Board b, int man, int cell) {
        Board n = b.copy();
        int there = b.who(cell % 5, cell / 5);
        if (there != NONE) {
            n.column[there] = -1;
            n.line[there] = -1;
            n.age[there] = 0;
        }
        n.column[man] = cell % 5;
        n.line[man] = cell / 5;
        n.age[man] = Math.min(9, b.age[man] + 1);
        n.turn = 1 - b.turn;
        return n;
    }

    int told(Board b, int[] move) {
        return 100 * (b.column[move[0]] + 5 * b.line[move[0]]) + move[1];
    }

    // The texts of boards and games.

    int fault(int how) {
        if (how < 0 || how > 1) {
            return OUTSIDE;
        }
        return how == 0 ? boardFault() : gameFault();
    }

    int gameFault() {
        for (int i = 0; i < pad.length(); i++) {
            if ((i % 2 == 0 ? "abcde" : "12345").indexOf(pad.charAt(i)) < 0) {
                return i;
            }
        }
        return pad.length() % 4 == 0 ? NONE : pad.length();
    }

    int boardFault() {
        Set<Character> men = new HashSet<>();
        Set<String> cells = new HashSet<>();
        int i = 0;
        while (i < pad.length()) {
            if (pad.charAt(i) == '!') {
                i++;
                if (i < pad.length()) {
                    return i;
                }
                break;
            }
            String[] sets = {"012345", "abcde", "12345", "0123456789"};
            for (int k = 0; k < 4; k++) {
                if (i + k >= pad.length()) {
                    return pad.length();
                }
                char sign = pad.charAt(i + k);
                if (sets[k].indexOf(sign) < 0 || k == 0 && !men.add(sign)
                        || k == 2 && !cells.add(pad.substring(i + 1, i + 3))) {
                    return i + k;
                }
            }
            i += 4;
        }
        return men.contains('0') && men.contains('3') ? NONE : pad.length();
    }

    Board boardTold() {
        Board b = new Board();
        for (int i = 0; i + 3 < pad.length(); i += 4) {
            int man = pad.charAt(i) - '0';
            b.column[man] = pad.charAt(i + 1) - 'a';
            b.line[man] = pad.charAt(i + 2) - '1';
            b.age[man] = pad.charAt(i + 3) - '0';
        }
        b.turn = pad.endsWith("!") ? 1 : 0;
        return b;
    }

    List<Integer> gameTold() {
        List<Integer> out = new ArrayList<>();
        for (int i = 0; i < pad.length(); i += 4) {
            int from = pad.charAt(i) - 'a' + 5 * (pad.charAt(i + 1) - '1');
            int to = pad.charAt(i + 2) - 'a' + 5 * (pad.charAt(i + 3) - '1');
            out.add(100 * from + to);
        }
        return out;
    }

    Board end;

    int[] judged() {
        end = board;
        int i = 0;
        for (int move : gameTold()) {
            int from = move / 100;
            int to = move % 100;
            if (brought(end) != 0) {
                return new int[] {i, 1};
            }
            int man = end.who(from % 5, from / 5);
            if (man == NONE || man / 3 != end.turn) {
                return new int[] {i, 2};
            }
            int why = why(end, man, to % 5, to / 5);
            if (why != 0) {
                return new int[] {i, why};
            }
            end = go(end, man, to);
            i++;
        }
        return new int[] {NONE, NONE};
    }

    boolean good() {
        return gameFault() == NONE && judged()[0] == NONE;
    }

    // Solved: what it brings, by how many moves, the best move.

    final Map<String, int[]> memo = new HashMap<>();
    // Tests that want to know how many more there are raise it.
    int limit = 20000;
    boolean full;

    int[] solved(Board b) {
        String text = b.text();
        if (memo.containsKey(text)) {
            return memo.get(text);
        }
        memo.put(text, null);
        if (memo.size() > limit) {
            full = true;
        }
        if (full) {
            return new int[] {0, 0, NONE};
        }
        int[] best = null;
        for (int[] move : may(b)) {
            int[] child = solved(go(b, move[0], move[1]));
            if (full) {
                return child;
            }
            int what = child[0] == 0 ? 0 : 3 - child[0];
            int[] mine = {what, child[1] + 1, told(b, move)};
            if (best == null || better(mine, best)) {
                best = mine;
            }
        }
        if (best == null) {
            int brought = brought(b);
            best = new int[] {brought == 3 ? 0 : brought - 1 == b.turn ? 1 : 2, 0, NONE};
        }
        memo.put(text, best);
        return best;
    }

    boolean better(int[] a, int[] b) {
        int[] rank = {1, 2, 0};
        if (rank[a[0]] != rank[b[0]]) {
            return rank[a[0]] > rank[b[0]];
        }
        return a[0] == 1 ? a[1] < b[1] : a[1] > b[1];
    }

    int[] solve(Board b) {
        memo.clear();
        full = false;
        int[] out = solved(b);
        return full ? null : out;
    }

    boolean winsIn(Board b, int n) {
        for (int[] move : may(b)) {
            if (key(b, move, n)) {
                return true;
            }
        }
        return false;
    }

    boolean key(Board b, int[] move, int n) {
        Board after = go(b, move[0], move[1]);
        int brought = brought(after);
        if (brought != 0) {
            return brought == b.turn + 1;
        }
        if (n == 1) {
            return false;
        }
        for (int[] reply : may(after)) {
            if (!winsIn(go(after, reply[0], reply[1]), n - 1)) {
                return false;
            }
        }
        return true;
    }

    List<Game> begun() {
        List<Integer> moves = gameTold();
        List<Game> out = new ArrayList<>();
        for (Game game : book) {
            if (game.start.text().equals(board.text()) && game.moves.size() >= moves.size()
                    && game.moves.subList(0, moves.size()).equals(moves)) {
                out.add(game);
            }
        }
        return out;
    }

    Board mirrored(int way) {
        Board b = board.copy();
        for (int man = 0; man < 6; man++) {
            if (b.up(man)) {
                b.column[man] = (way & 1) != 0 ? 4 - b.column[man] : b.column[man];
                b.line[man] = way >= 2 ? 4 - b.line[man] : b.line[man];
            }
        }
        return b;
    }

    int call(String name, int... a) {
        switch (name) {
            case "say":
                if (a[0] < 33 || a[0] > 126) {
                    return OUTSIDE;
                }
                if (pad.length() == 48) {
                    return FULL;
                }
                pad += (char) a[0];
                return pad.length();
            case "wipe": {
                int n = pad.length();
                pad = "";
                return n;
            }
            case "fault":
                return fault(a[0]);
            case "lay":
                if (boardFault() != NONE) {
                    return NO;
                }
                board = boardTold();
                pad = "";
                return board.count();
            case "law": {
                for (int i = 0; i < 3; i++) {
                    if (a[i] < 0 || a[i] > 9 || i > 0 && a[i] < a[i - 1]) {
                        return OUTSIDE;
                    }
                }
                int before = 100 * law[0] + 10 * law[1] + law[2];
                law = a.clone();
                return before;
            }
            case "man":
                if (a[0] < 0 || a[0] > 5) {
                    return UNKNOWN;
                }
                if (a[1] < 0 || a[1] > 2) {
                    return OUTSIDE;
                }
                return a[1] == 0 ? cellOf(a[0]) : a[1] == 1 ? board.age[a[0]] : kind(board.age[a[0]]);
            case "on":
                return a[0] < 0 || a[0] > 24 ? UNKNOWN : board.who(a[0] % 5, a[0] / 5);
            case "state":
                return a[0] == 0 ? board.turn : a[0] == 1 ? brought(board) : OUTSIDE;
            default:
                return callMoves(name, a);
        }
    }

    int cellOf(int man) {
        return board.up(man) ? board.column[man] + 5 * board.line[man] : NONE;
    }

    int callMoves(String name, int[] a) {
        switch (name) {
            case "judge":
                if (a[0] < 0 || a[0] > 1) {
                    return OUTSIDE;
                }
                return gameFault() != NONE ? NO : judged()[a[0]];
            case "play": {
                if (!good()) {
                    return NO;
                }
                int n = pad.length() / 4;
                board = end;
                pad = "";
                return n;
            }
            case "moves": {
                List<int[]> may = may(board);
                return a[0] == -1 ? may.size() : a[0] < 0 || a[0] >= may.size() ? NONE : told(board, may.get(a[0]));
            }
            case "reach": {
                if (a[0] < 0 || a[0] > 1) {
                    return OUTSIDE;
                }
                int bits = 0;
                for (int[] move : goings(board, a[0])) {
                    bits |= 1 << move[1];
                }
                return bits;
            }
            case "youth":
                return a[0] < 0 || a[0] > 1 || a[1] < 0 || a[1] > 1 ? OUTSIDE : youth(a[0], a[1]);
            default:
                return callSolved(name, a);
        }
    }

    int youth(int side, int what) {
        int years = 0;
        Set<Integer> going = new HashSet<>();
        for (int[] move : goings(board, side)) {
            going.add(move[0]);
        }
        int up = 0;
        for (int man = 3 * side; man < 3 * side + 3; man++) {
            if (board.up(man)) {
                up++;
                for (int age = board.age[man]; kind(age) < 3; age++) {
                    years++;
                }
            }
        }
        return what == 0 ? years : up - going.size();
    }

    int callSolved(String name, int[] a) {
        switch (name) {
            case "stands":
                return solve(board) == null ? FULL : memo.size();
            case "solve": {
                if (a[0] < 0 || a[0] > 2) {
                    return OUTSIDE;
                }
                int[] out = solve(board);
                return out == null ? FULL : out[a[0]];
            }
            case "keys": {
                if (a[0] < 1 || a[0] > 2) {
                    return OUTSIDE;
                }
                List<Integer> keys = new ArrayList<>();
                for (int[] move : may(board)) {
                    if (key(board, move, a[0])) {
                        keys.add(told(board, move));
                    }
                }
                return a[1] == -1 ? keys.size() : a[1] < 0 || a[1] >= keys.size() ? NONE : keys.get(a[1]);
            }
            case "even": {
                if (a[0] < 0 || a[0] > 5 || !board.up(a[0])) {
                    return UNKNOWN;
                }
                int bits = 0;
                for (int age = 0; age < 10; age++) {
                    Board b = board.copy();
                    b.age[a[0]] = age;
                    int[] out = solve(b);
                    bits |= out != null && out[0] == 0 ? 1 << age : 0;
                }
                return bits;
            }
            default:
                return callBook(name, a);
        }
    }

    int callBook(String name, int[] a) {
        switch (name) {
            case "book": {
                if (!good()) {
                    return NO;
                }
                if (book.size() == 8) {
                    return FULL;
                }
                Game game = new Game();
                game.start = board.copy();
                game.moves = gameTold();
                game.brought = brought(end);
                book.add(game);
                pad = "";
                return book.size() - 1;
            }
            case "booked": {
                if (a[0] < 0 || a[0] >= book.size()) {
                    return UNKNOWN;
                }
                Game game = book.get(a[0]);
                if (a[1] == 0 || a[1] == 1) {
                    return a[1] == 0 ? game.moves.size() : game.brought;
                }
                int k = a[1] - 10;
                return a[1] < 10 || a[1] > 21 ? OUTSIDE : k < game.moves.size() ? game.moves.get(k) : NONE;
            }
            case "next":
                return a[0] < 0 || a[0] > 4 ? OUTSIDE : gameFault() != NONE ? NO : next(a[0]);
            case "drawn":
                return a[0] < 0 || a[0] > 9999 || a[1] < 0 || a[1] > 1 ? OUTSIDE : drawn(a[0], a[1]);
            default:
                return callRest(name, a);
        }
    }

    int next(int what) {
        List<Game> begun = begun();
        if (what == 0) {
            return begun.size();
        }
        if (what < 3) {
            int won = 0;
            for (Game game : begun) {
                won += game.brought == what ? 1 : 0;
            }
            return won;
        }
        int[] times = new int[2500];
        for (Game game : begun) {
            if (game.moves.size() > gameTold().size()) {
                times[game.moves.get(gameTold().size())]++;
            }
        }
        int most = 0;
        for (int move = 0; move < 2500; move++) {
            most = times[move] > times[most] ? move : most;
        }
        return what == 4 ? times[most] : times[most] == 0 ? NONE : most;
    }

    int drawn(int seed, int what) {
        Board b = board;
        int n = 0;
        long x = seed;
        while (n < 60 && !may(b).isEmpty()) {
            x = (75 * x + 74) % 65537;
            List<int[]> may = may(b);
            int[] move = may.get((int) (x % may.size()));
            b = go(b, move[0], move[1]);
            n++;
        }
        return what == 0 ? brought(b) : n;
    }

    int callRest(String name, int[] a) {
        switch (name) {
            case "mirror":
                if (a[0] < 1 || a[0] > 3) {
                    return OUTSIDE;
                }
                board = mirrored(a[0]);
                return board.count();
            case "like": {
                if (boardFault() != NONE) {
                    return NO;
                }
                int bits = 0;
                for (int way = 0; way < 4; way++) {
                    bits |= mirrored(way).text().equals(boardTold().text()) ? 1 << way : 0;
                }
                return bits;
            }
            case "image":
                if (a[0] < 0 || a[0] > 1) {
                    return OUTSIDE;
                }
                images[a[0]] = new Object[] {board.copy(), law.clone(), new ArrayList<>(book)};
                return 1;
            case "restore":
                if (a[0] < 0 || a[0] > 1) {
                    return OUTSIDE;
                }
                if (images[a[0]] == null) {
                    return STATE;
                }
                board = ((Board) images[a[0]][0]).copy();
                law = ((int[]) images[a[0]][1]).clone();
                book = new ArrayList<>();
                for (Object game : (List<?>) images[a[0]][2]) {
                    book.add((Game) game);
                }
                return 1;
            default:
                return told(a[0]);
        }
    }

    int told(int what) {
        if (what >= 10 && what <= 15) {
            return cellOf(what - 10);
        }
        if (what >= 20 && what <= 25) {
            return board.age[what - 20];
        }
        return what == 0 ? pad.length() : what == 1 ? book.size() : what >= 2 && what <= 4 ? law[what - 2] : OUTSIDE;
    }
}
