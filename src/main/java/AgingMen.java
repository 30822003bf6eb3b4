/** A game on five by five in which each man is a year older with every move of his own. */
public final class AgingMen {
    public static final int UNKNOWN = -1, OUTSIDE = -2, STATE = -3, FULL = -4, NO = -5, NONE = -6;

    private static final int MEN = 6;
    private static final int MEN_OF_SIDE = 3;
    private static final int CELLS = 25;
    private static final int WIDTH = 5;
    private static final int OLDEST = 9;
    private static final int PAD_SIGNS = 48;
    private static final int GAME_MOVES = 12;
    private static final int BOOK_GAMES = 8;
    private static final int DRAWN_MOVES = 60;
    // No man of any kind has more than eight cells to go to.
    private static final int MOST_MOVES = MEN_OF_SIDE * 8;

    private static final int BOY = 0, GROWN = 1, OLD = 2, STILL = 3;
    private static final int NOT_OVER = 0, DRAWN = 3;

    private final Pad pad;
    private final Rules rules;
    private final Book shelf;
    private final Judge referee;
    private final Problem problem;
    private final Image firstImage;
    private final Image secondImage;
    private final int[] row;
    // Its tables are by far the largest thing here: only objects that solve have one.
    private Solver solver;
    private long stand;

    public AgingMen() {
        pad = new Pad();
        rules = new Rules();
        shelf = new Book();
        referee = new Judge();
        problem = new Problem();
        firstImage = new Image();
        secondImage = new Image();
        row = new int[MOST_MOVES];
        solver = null;
        stand = Stand.put(Stand.put(Stand.EMPTY, 0, 0, 0), 3, CELLS - 1, 0);
    }

    // ---- 1 boards

    public int say(int sign) {
        if (sign < 33 || sign > 126) {
            return OUTSIDE;
        }
        return pad.add(sign) ? pad.size : FULL;
    }

    public int wipe() {
        int signs = pad.size;
        pad.clear();
        return signs;
    }

    public int fault(int how) {
        if (how != 0 && how != 1) {
            return OUTSIDE;
        }
        return how == 0 ? pad.boardFault() : pad.gameFault();
    }

    public int lay() {
        if (pad.boardFault() != NONE) {
            return NO;
        }
        stand = pad.boardTold();
        pad.clear();
        return Stand.countMen(stand);
    }

    public int law(int boys, int grown, int old) {
        if (boys < 0 || grown < boys || old < grown || old > OLDEST) {
            return OUTSIDE;
        }
        int before = rules.code();
        rules.set(boys, grown, old);
        return before;
    }

    public int man(int man, int what) {
        if (man < 0 || man >= MEN) {
            return UNKNOWN;
        }
        switch (what) {
            case 0:
                return cellOrNone(man);
            case 1:
                return Stand.ageOf(stand, man);
            case 2:
                return rules.kindOf(Stand.ageOf(stand, man));
            default:
                return OUTSIDE;
        }
    }

    private int cellOrNone(int man) {
        return Stand.isUp(stand, man) ? Stand.cellOf(stand, man) : NONE;
    }

    public int on(int cell) {
        return cell < 0 || cell >= CELLS ? UNKNOWN : Stand.manOn(stand, cell);
    }

    public int state(int what) {
        if (what != 0 && what != 1) {
            return OUTSIDE;
        }
        return what == 0 ? Stand.turnOf(stand) : rules.ending(stand);
    }

    // ---- 2 moves

    public int judge(int what) {
        if (what != 0 && what != 1) {
            return OUTSIDE;
        }
        if (pad.gameFault() != NONE) {
            return NO;
        }
        if (referee.passes(rules, stand, pad)) {
            return NONE;
        }
        return what == 0 ? referee.firstBad : referee.reason;
    }

    public int play() {
        if (!gameIsGood()) {
            return NO;
        }
        int played = pad.countMoves();
        stand = referee.end;
        pad.clear();
        return played;
    }

    private boolean gameIsGood() {
        return pad.gameFault() == NONE && referee.passes(rules, stand, pad);
    }

    public int moves(int i) {
        int count = rules.list(stand, row, 0);
        if (i == -1) {
            return count;
        }
        return i < 0 || i >= count || i >= row.length ? NONE : Stand.asTold(stand, row[i]);
    }

    public int reach(int side) {
        return side != 0 && side != 1 ? OUTSIDE : rules.reachOfSide(stand, side);
    }

    public int youth(int side, int what) {
        if ((side != 0 && side != 1) || (what != 0 && what != 1)) {
            return OUTSIDE;
        }
        return what == 0 ? rules.youthOf(stand, side) : rules.countBlocked(stand, side);
    }

    // ---- 3 solved

    public int stands() {
        Solver solved = readySolver();
        solved.goThrough(rules, stand);
        return solved.full ? FULL : solved.count;
    }

    public int solve(int what) {
        if (what < 0 || what > 2) {
            return OUTSIDE;
        }
        Solver solved = readySolver();
        solved.goThrough(rules, stand);
        if (solved.full) {
            return FULL;
        }
        if (what == 2) {
            return solved.bestMove == NONE ? NONE : Stand.asTold(stand, solved.bestMove);
        }
        return what == 0 ? Score.bringing(solved.score) : Score.length(solved.score);
    }

    private Solver readySolver() {
        if (solver == null) {
            solver = new Solver();
        }
        return solver;
    }

    public int keys(int n, int i) {
        if (n != 1 && n != 2) {
            return OUTSIDE;
        }
        problem.find(rules, stand, n);
        if (i == -1) {
            return problem.count;
        }
        if (i < 0 || i >= problem.count || i >= problem.found.length) {
            return NONE;
        }
        return Stand.asTold(stand, problem.found[i]);
    }

    public int even(int man) {
        if (man < 0 || man >= MEN || !Stand.isUp(stand, man)) {
            return UNKNOWN;
        }
        Solver solved = readySolver();
        int cell = Stand.cellOf(stand, man);
        int bits = 0;
        for (int age = 0; age <= OLDEST; age++) {
            solved.goThrough(rules, Stand.put(stand, man, cell, age));
            if (!solved.full && Score.bringing(solved.score) == 0) {
                bits |= 1 << age;
            }
        }
        return bits;
    }

    // ---- 4 the book, draws, mirrors

    public int book() {
        if (!gameIsGood()) {
            return NO;
        }
        if (shelf.count >= BOOK_GAMES) {
            return FULL;
        }
        int game = shelf.add(stand, pad, rules.ending(referee.end));
        pad.clear();
        return game;
    }

    public int booked(int game, int what) {
        if (game < 0 || game >= shelf.count) {
            return UNKNOWN;
        }
        if (what == 0) {
            return shelf.lengthOf(game);
        }
        if (what == 1) {
            return shelf.broughtBy(game);
        }
        return what < 10 || what >= 10 + GAME_MOVES ? OUTSIDE : shelf.moveOf(game, what - 10);
    }

    public int next(int what) {
        if (what < 0 || what > 4) {
            return OUTSIDE;
        }
        if (pad.gameFault() != NONE) {
            return NO;
        }
        if (what == 0) {
            return shelf.countBegun(stand, pad);
        }
        if (what <= 2) {
            return shelf.countWon(stand, pad, what);
        }
        int most = shelf.mostPlayed(stand, pad);
        return what == 3 ? most : shelf.timesPlayed(stand, pad, most);
    }

    public int drawn(int seed, int what) {
        if (seed < 0 || seed > 9999 || (what != 0 && what != 1)) {
            return OUTSIDE;
        }
        long now = stand;
        int x = seed;
        int made = 0;
        for (int step = 0; step < DRAWN_MOVES; step++) {
            int count = rules.list(now, row, 0);
            if (count <= 0) {
                break;
            }
            x = (75 * x + 74) % 65537;
            int pick = x % count;
            if (pick < 0 || pick >= row.length) {
                break;
            }
            now = Stand.after(now, row[pick]);
            made++;
        }
        return what == 0 ? rules.ending(now) : made;
    }

    public int mirror(int way) {
        if (way < 1 || way > 3) {
            return OUTSIDE;
        }
        stand = Stand.mirrored(stand, way);
        return Stand.countMen(stand);
    }

    public int like() {
        if (pad.boardFault() != NONE) {
            return NO;
        }
        long told = pad.boardTold();
        int bits = 0;
        for (int way = 0; way < 4; way++) {
            if (Stand.mirrored(stand, way) == told) {
                bits |= 1 << way;
            }
        }
        return bits;
    }

    public int image(int n) {
        if (n != 0 && n != 1) {
            return OUTSIDE;
        }
        Image image = imageNumbered(n);
        image.kept = true;
        image.stand = stand;
        image.law = rules.code();
        image.shelf.copyFrom(shelf);
        return 1;
    }

    public int restore(int n) {
        if (n != 0 && n != 1) {
            return OUTSIDE;
        }
        Image image = imageNumbered(n);
        if (!image.kept) {
            return STATE;
        }
        stand = image.stand;
        rules.set(image.law / 100, image.law / 10 % 10, image.law % 10);
        shelf.copyFrom(image.shelf);
        return 1;
    }

    private Image imageNumbered(int n) {
        return n == 0 ? firstImage : secondImage;
    }

    public int told(int what) {
        if (what >= 10 && what < 10 + MEN) {
            return cellOrNone(what - 10);
        }
        if (what >= 20 && what < 20 + MEN) {
            return Stand.ageOf(stand, what - 20);
        }
        switch (what) {
            case 0:
                return pad.size;
            case 1:
                return shelf.count;
            case 2:
                return rules.boys;
            case 3:
                return rules.grown;
            case 4:
                return rules.old;
            default:
                return OUTSIDE;
        }
    }

    /**
     * A stand is one long, so that keeping and comparing one needs no object: nine bits a man
     * (five for his cell, four for his age), then one for the turn.
     * A move is 32 times the man, and the cell to which.
     */
    private static final class Stand {
        private static final int MAN_BITS = 9;
        private static final int CELL_BITS = 5;
        private static final int AWAY = 31;
        private static final int TURN_AT = MEN * MAN_BITS;
        // AWAY for each of the six men, and the turn of side 0.
        private static final long EMPTY = 31L | 31L << 9 | 31L << 18 | 31L << 27 | 31L << 36 | 31L << 45;

        static int cellOf(long stand, int man) {
            return (int) (stand >>> (MAN_BITS * man)) & 31;
        }

        static int ageOf(long stand, int man) {
            return (int) (stand >>> (MAN_BITS * man + CELL_BITS)) & 15;
        }

        static int turnOf(long stand) {
            return (int) (stand >>> TURN_AT) & 1;
        }

        static boolean isUp(long stand, int man) {
            return cellOf(stand, man) != AWAY;
        }

        static long withTurn(long stand, int turn) {
            return (stand & ~(1L << TURN_AT)) | ((long) turn << TURN_AT);
        }

        static long put(long stand, int man, int cell, int age) {
            int at = MAN_BITS * man;
            return (stand & ~(511L << at)) | ((long) (cell | (age << CELL_BITS)) << at);
        }

        static int manOn(long stand, int cell) {
            for (int man = 0; man < MEN; man++) {
                if (cellOf(stand, man) == cell) {
                    return man;
                }
            }
            return NONE;
        }

        static int countMen(long stand) {
            return Integer.bitCount(cellsOf(stand, 0)) + Integer.bitCount(cellsOf(stand, 1));
        }

        static int cellsOf(long stand, int side) {
            int bits = 0;
            for (int i = 0; i < MEN_OF_SIDE; i++) {
                int cell = cellOf(stand, MEN_OF_SIDE * side + i);
                if (cell != AWAY) {
                    bits |= 1 << cell;
                }
            }
            return bits;
        }

        static int asTold(long stand, int move) {
            return 100 * cellOf(stand, move >> 5) + (move & 31);
        }

        static long after(long stand, int move) {
            int man = move >> 5;
            int to = move & 31;
            int age = ageOf(stand, man);
            int others = man < MEN_OF_SIDE ? MEN_OF_SIDE : 0;
            long next = put(stand, man, to, age < OLDEST ? age + 1 : OLDEST) ^ (1L << TURN_AT);
            for (int other = others; other < others + MEN_OF_SIDE; other++) {
                if (cellOf(next, other) == to) {
                    next = put(next, other, AWAY, 0);
                }
            }
            return next;
        }

        static long mirrored(long stand, int way) {
            long turned = stand;
            for (int man = 0; man < MEN; man++) {
                int cell = cellOf(stand, man);
                if (cell != AWAY) {
                    turned = put(turned, man, mirroredCell(cell, way), ageOf(stand, man));
                }
            }
            return turned;
        }

        private static int mirroredCell(int cell, int way) {
            int column = cell % WIDTH;
            int line = cell / WIDTH;
            int newColumn = (way & 1) != 0 ? WIDTH - 1 - column : column;
            int newLine = (way & 2) != 0 ? WIDTH - 1 - line : line;
            return newColumn + WIDTH * newLine;
        }
    }

    /** The law of ages, and what it lets men do. */
    private static final class Rules {
        private static final int[] JUMPS = {
            0x0000880, 0x0001500, 0x0002a20, 0x0005040, 0x0002080,
            0x0011004, 0x002a008, 0x0054411, 0x00a0802, 0x0041004,
            0x0220082, 0x0540105, 0x0a8822a, 0x1410054, 0x0820088,
            0x0401040, 0x08020a0, 0x1104540, 0x0200a80, 0x0401100,
            0x0020800, 0x0041400, 0x008a800, 0x0015000, 0x0022000,
        };
        private static final int[] STEPS = {
            0x0000062, 0x00000e5, 0x00001ca, 0x0000394, 0x0000308,
            0x0000c43, 0x0001ca7, 0x000394e, 0x000729c, 0x0006118,
            0x0018860, 0x00394e0, 0x00729c0, 0x00e5380, 0x00c2300,
            0x0310c00, 0x0729c00, 0x0e53800, 0x1ca7000, 0x1846000,
            0x0218000, 0x0538000, 0x0a70000, 0x14e0000, 0x08c0000,
        };

        private int boys = 2;
        private int grown = 5;
        private int old = 8;

        void set(int newBoys, int newGrown, int newOld) {
            boys = newBoys;
            grown = newGrown;
            old = newOld;
        }

        int code() {
            return 100 * boys + 10 * grown + old;
        }

        int kindOf(int age) {
            if (age < boys) {
                return BOY;
            }
            if (age < grown) {
                return GROWN;
            }
            return age < old ? OLD : STILL;
        }

        /** The cells to which one of this age can go, as bits, where men stand on the cells of own and all. */
        int targets(int cell, int age, int own, int all) {
            if (cell < 0 || cell >= CELLS) {
                return 0;
            }
            switch (kindOf(age)) {
                case BOY:
                    return JUMPS[cell] & ~own;
                case GROWN:
                    return straight(cell, all) & ~own;
                case OLD:
                    return STEPS[cell] & ~own;
                default:
                    return 0;
            }
        }

        private static int straight(int cell, int all) {
            int column = cell % WIDTH;
            int line = cell / WIDTH;
            int bits = 0;
            for (int way = 0; way < 4; way++) {
                int step = (way & 1) == 0 ? 1 : -1;
                int place = way < 2 ? column : line;
                int room = step > 0 ? WIDTH - 1 - place : place;
                int ahead = way < 2 ? step : WIDTH * step;
                for (int i = 1; i <= room; i++) {
                    int bit = 1 << (cell + i * ahead);
                    bits |= bit;
                    if ((all & bit) != 0) {
                        break;
                    }
                }
            }
            return bits;
        }

        int reachOfSide(long stand, int side) {
            int own = Stand.cellsOf(stand, side);
            int all = own | Stand.cellsOf(stand, 1 - side);
            int bits = 0;
            for (int man = MEN_OF_SIDE * side; man < MEN_OF_SIDE * side + MEN_OF_SIDE; man++) {
                bits |= targets(Stand.cellOf(stand, man), Stand.ageOf(stand, man), own, all);
            }
            return bits;
        }

        int countBlocked(long stand, int side) {
            int own = Stand.cellsOf(stand, side);
            int all = own | Stand.cellsOf(stand, 1 - side);
            int blocked = 0;
            for (int man = MEN_OF_SIDE * side; man < MEN_OF_SIDE * side + MEN_OF_SIDE; man++) {
                if (Stand.isUp(stand, man)
                        && targets(Stand.cellOf(stand, man), Stand.ageOf(stand, man), own, all) == 0) {
                    blocked++;
                }
            }
            return blocked;
        }

        int youthOf(long stand, int side) {
            int years = 0;
            for (int man = MEN_OF_SIDE * side; man < MEN_OF_SIDE * side + MEN_OF_SIDE; man++) {
                if (Stand.isUp(stand, man)) {
                    years += Math.max(0, old - Stand.ageOf(stand, man));
                }
            }
            return years;
        }

        /** What the stand brought: not over, won by side 0, by side 1, drawn. */
        int ending(long stand) {
            if (!Stand.isUp(stand, 0)) {
                return wonBy(1);
            }
            if (!Stand.isUp(stand, MEN_OF_SIDE)) {
                return wonBy(0);
            }
            int turn = Stand.turnOf(stand);
            if (reachOfSide(stand, turn) != 0) {
                return NOT_OVER;
            }
            return reachOfSide(stand, 1 - turn) != 0 ? wonBy(1 - turn) : DRAWN;
        }

        static int wonBy(int side) {
            return side + 1;
        }

        /** Writes the moves that may be into the row, from the start on: how many; 0 just if it is over. */
        int list(long stand, int[] row, int start) {
            if (start < 0 || !Stand.isUp(stand, 0) || !Stand.isUp(stand, MEN_OF_SIDE)) {
                return 0;
            }
            int side = Stand.turnOf(stand);
            int own = Stand.cellsOf(stand, side);
            int all = own | Stand.cellsOf(stand, 1 - side);
            int count = 0;
            for (int man = MEN_OF_SIDE * side; man < MEN_OF_SIDE * side + MEN_OF_SIDE; man++) {
                int rest = targets(Stand.cellOf(stand, man), Stand.ageOf(stand, man), own, all);
                for (int i = 0; i < CELLS && rest != 0 && start + count < row.length; i++) {
                    int lowest = rest & -rest;
                    row[start + count] = (man << 5) | Integer.bitCount(lowest - 1);
                    count++;
                    rest ^= lowest;
                }
            }
            return count;
        }
    }

    /** The signs said, as a board or as a game. */
    private static final class Pad {
        private final byte[] signs = new byte[PAD_SIGNS];
        private int size = 0;

        boolean add(int sign) {
            if (size < 0 || size >= signs.length) {
                return false;
            }
            signs[size] = (byte) sign;
            size++;
            return true;
        }

        void clear() {
            size = 0;
        }

        private int signAt(int place) {
            return place < 0 || place >= size || place >= signs.length ? 0 : signs[place];
        }

        private static boolean isColumn(int sign) {
            return sign >= 'a' && sign <= 'e';
        }

        private static boolean isLine(int sign) {
            return sign >= '1' && sign <= '5';
        }

        private int cellAt(int place) {
            return signAt(place) - 'a' + WIDTH * (signAt(place + 1) - '1');
        }

        int boardFault() {
            int men = 0;
            int cells = 0;
            boolean ended = false;
            for (int place = 0; place < size; place++) {
                int sign = signAt(place);
                if (ended || !fitsBoard(place, sign, men, cells)) {
                    return place;
                }
                if (sign == '!') {
                    ended = true;
                } else if (place % 4 == 0) {
                    men |= 1 << (sign - '0');
                } else if (place % 4 == 2) {
                    cells |= 1 << cellAt(place - 1);
                }
            }
            boolean whole = ended || size % 4 == 0;
            int fathers = 1 | (1 << MEN_OF_SIDE);
            return whole && (men & fathers) == fathers ? NONE : size;
        }

        private boolean fitsBoard(int place, int sign, int men, int cells) {
            switch (place % 4) {
                case 0:
                    return sign == '!' || (sign >= '0' && sign <= '5' && (men & (1 << (sign - '0'))) == 0);
                case 1:
                    return isColumn(sign);
                case 2:
                    return isLine(sign) && (cells & (1 << cellAt(place - 1))) == 0;
                default:
                    return sign >= '0' && sign <= '9';
            }
        }

        int gameFault() {
            for (int place = 0; place < size; place++) {
                int sign = signAt(place);
                boolean fits = place % 2 == 0 ? isColumn(sign) : isLine(sign);
                if (!fits) {
                    return place;
                }
            }
            return size % 4 == 0 ? NONE : size;
        }

        /** Means something only where there is no fault. */
        long boardTold() {
            long stand = Stand.EMPTY;
            for (int place = 0; place + 3 < size; place += 4) {
                stand = Stand.put(stand, signAt(place) - '0', cellAt(place + 1), signAt(place + 3) - '0');
            }
            return Stand.withTurn(stand, size % 4 == 1 ? 1 : 0);
        }

        int countMoves() {
            return size / 4;
        }

        int fromAt(int move) {
            return cellAt(4 * move);
        }

        int toAt(int move) {
            return cellAt(4 * move + 2);
        }
    }

    /** Goes through the game on a pad, up to the first move that may not be. */
    private static final class Judge {
        private int firstBad = NONE;
        private int reason = NONE;
        private long end = 0;

        boolean passes(Rules rules, long stand, Pad pad) {
            end = stand;
            for (int i = 0; i < pad.countMoves() && i < GAME_MOVES; i++) {
                int why = whyNot(rules, end, pad.fromAt(i), pad.toAt(i));
                if (why != 0) {
                    firstBad = i;
                    reason = why;
                    return false;
                }
                end = Stand.after(end, (Stand.manOn(end, pad.fromAt(i)) << 5) | pad.toAt(i));
            }
            return true;
        }

        private static int whyNot(Rules rules, long stand, int from, int to) {
            if (rules.ending(stand) != NOT_OVER) {
                return 1;
            }
            int man = Stand.manOn(stand, from);
            int side = Stand.turnOf(stand);
            if (man == NONE || man / MEN_OF_SIDE != side) {
                return 2;
            }
            int age = Stand.ageOf(stand, man);
            if (rules.kindOf(age) == STILL) {
                return 3;
            }
            int bit = 1 << to;
            if ((rules.targets(from, age, 0, 0) & bit) == 0) {
                return 4;
            }
            int own = Stand.cellsOf(stand, side);
            if ((rules.targets(from, age, 0, own | Stand.cellsOf(stand, 1 - side)) & bit) == 0) {
                return 5;
            }
            return (own & bit) != 0 ? 6 : 0;
        }
    }

    /**
     * How good a stand is for who has the turn, as a number of which the greater is better:
     * lost in m moves is 1 + m, drawn 128 + m, won 512 - m.
     */
    private static final class Score {
        private static final int LOST = 1;
        private static final int EVEN = 128;
        private static final int WON_LEAST = 256;
        private static final int WON = 512;

        static int atEnd(int ending, int turn) {
            if (ending == DRAWN) {
                return EVEN;
            }
            return ending == Rules.wonBy(turn) ? WON : LOST;
        }

        /** The score of a move for who made it, from that of what it leads to for the other side. */
        static int before(int score) {
            if (score < EVEN) {
                return WON - (score - LOST + 1);
            }
            return score < WON_LEAST ? score + 1 : LOST + WON - score + 1;
        }

        static int bringing(int score) {
            if (score < EVEN) {
                return 2;
            }
            return score < WON_LEAST ? 0 : 1;
        }

        static int length(int score) {
            if (score < EVEN) {
                return score - LOST;
            }
            return score < WON_LEAST ? score - EVEN : WON - score;
        }
    }

    /**
     * Goes through all stands that can come from one, depth first on rows of its own.
     * Every move makes a man older or takes one, so no stand comes back and no way is longer than 54 moves.
     */
    private static final class Solver {
        private static final int LIMIT = 20000;
        private static final int SLOTS = 32768;
        private static final int SLOT_BITS = 15;
        private static final int DEPTH = 64;
        private static final int SCORE_BITS = 10;
        private static final int MOST_STEPS = 1000000;

        // A slot's mark holds the round in which it was filled: older ones count as empty, and nothing is wiped.
        private final long[] filled = new long[SLOTS];
        private final int[] marks = new int[SLOTS];
        private int round = 0;

        private final long[] path = new long[DEPTH];
        private final int[] slots = new int[DEPTH];
        private final int[] listed = new int[DEPTH];
        private final int[] tried = new int[DEPTH];
        private final int[] best = new int[DEPTH];
        private final int[] rows = new int[DEPTH * MOST_MOVES];
        private int depth = 0;

        private long solvedStand = 0;
        private int solvedLaw = -1;
        private int count = 0;
        private boolean full = false;
        private int score = 0;
        private int bestMove = NONE;

        void goThrough(Rules rules, long stand) {
            if (solvedLaw == rules.code() && solvedStand == stand) {
                return;
            }
            solvedLaw = rules.code();
            solvedStand = stand;
            round++;
            depth = 0;
            count = 0;
            full = false;
            score = 0;
            bestMove = NONE;
            open(rules, stand, slotOf(stand));
            for (int step = 0; step < MOST_STEPS && depth > 0 && !full; step++) {
                goOn(rules);
            }
        }

        private int slotOf(long stand) {
            int start = (int) (((stand ^ (stand >>> 29)) * 0x9e3779b97f4a7c15L) >>> (64 - SLOT_BITS));
            for (int i = 0; i < SLOTS; i++) {
                int slot = (start + i) & (SLOTS - 1);
                if (!isFilled(slot) || filled[slot] == stand) {
                    return slot;
                }
            }
            return -1;
        }

        private boolean isFilled(int slot) {
            return (marks[slot] >>> SCORE_BITS) == round;
        }

        private void open(Rules rules, long stand, int slot) {
            if (count >= LIMIT || slot < 0 || slot >= SLOTS || depth < 0 || depth >= DEPTH) {
                full = true;
                return;
            }
            count++;
            filled[slot] = stand;
            marks[slot] = round << SCORE_BITS;
            path[depth] = stand;
            slots[depth] = slot;
            tried[depth] = 0;
            listed[depth] = rules.list(stand, rows, depth * MOST_MOVES);
            best[depth] = listed[depth] > 0 ? 0 : Score.atEnd(rules.ending(stand), Stand.turnOf(stand));
            depth++;
        }

        private void goOn(Rules rules) {
            int top = depth - 1;
            if (top < 0 || top >= DEPTH) {
                full = true;
                return;
            }
            int at = top * MOST_MOVES + tried[top];
            if (tried[top] >= listed[top] || at < 0 || at >= rows.length) {
                close(top);
                return;
            }
            long child = Stand.after(path[top], rows[at]);
            int slot = slotOf(child);
            if (slot >= 0 && slot < SLOTS && isFilled(slot)) {
                weigh(top, marks[slot] & ((1 << SCORE_BITS) - 1));
            } else {
                open(rules, child, slot);
            }
        }

        private void close(int top) {
            int slot = slots[top];
            if (slot >= 0 && slot < SLOTS) {
                marks[slot] = (round << SCORE_BITS) | best[top];
            }
            depth = top;
            if (top > 0) {
                weigh(top - 1, best[top]);
            } else {
                score = best[top];
            }
        }

        private void weigh(int top, int childScore) {
            int value = Score.before(childScore);
            if (value > best[top]) {
                best[top] = value;
                if (top == 0 && tried[0] < rows.length) {
                    bestMove = rows[tried[0]];
                }
            }
            tried[top]++;
        }
    }

    /** First moves that win in so many, whatever the other side does. */
    private static final class Problem {
        private final int[] firsts = new int[MOST_MOVES];
        private final int[] replies = new int[MOST_MOVES];
        private final int[] lasts = new int[MOST_MOVES];
        private final int[] found = new int[MOST_MOVES];
        private int count = 0;
        private long foundStand = 0;
        private int foundLaw = -1;
        private int foundN = 0;

        void find(Rules rules, long stand, int n) {
            if (foundLaw == rules.code() && foundStand == stand && foundN == n) {
                return;
            }
            foundLaw = rules.code();
            foundStand = stand;
            foundN = n;
            count = 0;
            int won = Rules.wonBy(Stand.turnOf(stand));
            int listed = rules.list(stand, firsts, 0);
            for (int i = 0; i < listed && i < firsts.length; i++) {
                long after = Stand.after(stand, firsts[i]);
                int ending = rules.ending(after);
                boolean wins = ending == won || (n > 1 && ending == NOT_OVER && winsAgainstAll(rules, after));
                if (wins && count < found.length) {
                    found[count] = firsts[i];
                    count++;
                }
            }
        }

        private boolean winsAgainstAll(Rules rules, long stand) {
            int listed = rules.list(stand, replies, 0);
            for (int i = 0; i < listed && i < replies.length; i++) {
                if (!winsAtOnce(rules, Stand.after(stand, replies[i]))) {
                    return false;
                }
            }
            return true;
        }

        private boolean winsAtOnce(Rules rules, long stand) {
            int won = Rules.wonBy(Stand.turnOf(stand));
            int listed = rules.list(stand, lasts, 0);
            for (int i = 0; i < listed && i < lasts.length; i++) {
                if (rules.ending(Stand.after(stand, lasts[i])) == won) {
                    return true;
                }
            }
            return false;
        }
    }

    /** Games told, each with the stand that it began from and what it brought. */
    private static final class Book {
        private final long[] starts = new long[BOOK_GAMES];
        private final int[] lengths = new int[BOOK_GAMES];
        private final int[] results = new int[BOOK_GAMES];
        private final int[] played = new int[BOOK_GAMES * GAME_MOVES];
        private int count = 0;

        int add(long stand, Pad pad, int brought) {
            if (count < 0 || count >= BOOK_GAMES) {
                return FULL;
            }
            int game = count;
            starts[game] = stand;
            lengths[game] = pad.countMoves();
            results[game] = brought;
            for (int i = 0; i < pad.countMoves() && i < GAME_MOVES; i++) {
                played[game * GAME_MOVES + i] = moveOnPad(pad, i);
            }
            count++;
            return game;
        }

        private static int moveOnPad(Pad pad, int i) {
            return 100 * pad.fromAt(i) + pad.toAt(i);
        }

        void copyFrom(Book other) {
            System.arraycopy(other.starts, 0, starts, 0, BOOK_GAMES);
            System.arraycopy(other.lengths, 0, lengths, 0, BOOK_GAMES);
            System.arraycopy(other.results, 0, results, 0, BOOK_GAMES);
            System.arraycopy(other.played, 0, played, 0, BOOK_GAMES * GAME_MOVES);
            count = other.count;
        }

        private boolean has(int game) {
            return game >= 0 && game < count && game < BOOK_GAMES;
        }

        int lengthOf(int game) {
            return has(game) ? lengths[game] : 0;
        }

        int broughtBy(int game) {
            return has(game) ? results[game] : NOT_OVER;
        }

        int moveOf(int game, int i) {
            return i < 0 || i >= lengthOf(game) || i >= GAME_MOVES ? NONE : played[game * GAME_MOVES + i];
        }

        private boolean begins(int game, long stand, Pad pad) {
            if (!has(game) || starts[game] != stand || lengths[game] < pad.countMoves()) {
                return false;
            }
            for (int i = 0; i < pad.countMoves() && i < GAME_MOVES; i++) {
                if (moveOf(game, i) != moveOnPad(pad, i)) {
                    return false;
                }
            }
            return true;
        }

        int countBegun(long stand, Pad pad) {
            int games = 0;
            for (int game = 0; game < count; game++) {
                if (begins(game, stand, pad)) {
                    games++;
                }
            }
            return games;
        }

        int countWon(long stand, Pad pad, int brought) {
            int games = 0;
            for (int game = 0; game < count; game++) {
                if (begins(game, stand, pad) && broughtBy(game) == brought) {
                    games++;
                }
            }
            return games;
        }

        int timesPlayed(long stand, Pad pad, int move) {
            int times = 0;
            for (int game = 0; game < count; game++) {
                if (move != NONE && begins(game, stand, pad) && moveOf(game, pad.countMoves()) == move) {
                    times++;
                }
            }
            return times;
        }

        int mostPlayed(long stand, Pad pad) {
            int most = NONE;
            int mostTimes = 0;
            for (int game = 0; game < count; game++) {
                int move = begins(game, stand, pad) ? moveOf(game, pad.countMoves()) : NONE;
                int times = timesPlayed(stand, pad, move);
                if (times > mostTimes || (times == mostTimes && times > 0 && move < most)) {
                    most = move;
                    mostTimes = times;
                }
            }
            return most;
        }
    }

    /** All but the pad, as it was when it was kept. */
    private static final class Image {
        private final Book shelf = new Book();
        private boolean kept = false;
        private long stand = 0;
        private int law = 0;
    }
}
