/** Chess on a small board: setting up, legal moves, the course of a game, and looking ahead. */
public final class SmallBoard {
    private static final int WIDTH = 6;
    private static final int SQUARES = 36;
    private static final int MOST_PIECES = 6;

    private static final int NOTHING = 0;
    private static final int PAWN = 1;
    private static final int KNIGHT = 2;
    private static final int BISHOP = 3;
    private static final int ROOK = 4;
    private static final int QUEEN = 5;
    private static final int KING = 6;

    // A piece is its kind in the low three bits and its side in the bit above them.
    private static final int KIND_MASK = 7;
    private static final int SIDE_SHIFT = 3;
    private static final int LAST_PIECE = 14;

    // The number of a move is 64 * from + to.
    private static final int FROM_SHIFT = 6;
    private static final int TO_MASK = 63;
    private static final int NUMBERS = 64 * 36;
    private static final int NO_MOVE = -1;

    private static final int LONGEST_GAME = 60;
    private static final int LONGEST_QUIET = 20;
    private static final int REPEATS_TO_END = 3;
    private static final int POSITIONS = 61;
    private static final int PAST_CELLS = 61 * 36;

    private static final int LEVELS = 4;
    private static final int MATED = -1000;
    private static final int BELOW_ALL_VALUES = -1000000;
    // A walk of three moves has some 250000 steps at most: six pieces have at most 65, 27 and 65 moves.
    private static final int MOST_STEPS = 100000000;

    private final int[] board = new int[SQUARES];
    private boolean going = false;
    private int toMove = 0;
    private int made = 0;

    // The board and the count of quiet moves after each number of moves of the game.
    private final int[] past = new int[PAST_CELLS];
    private final int[] quiet = new int[POSITIONS];

    // Looking ahead plays on the board itself; each level keeps what is needed to take its move back.
    private final int[] tried = new int[LEVELS];
    private final int[] moved = new int[LEVELS];
    private final int[] taken = new int[LEVELS];
    private final int[] greatest = new int[LEVELS];
    private int bestAtRoot = NO_MOVE;

    public SmallBoard() {
    }

    public int put(int square, int piece) {
        if (!isSquare(square)) {
            return -1;
        }
        if (!isPieceOrNothing(piece)) {
            return -2;
        }
        if (going) {
            return -3;
        }
        if (kindOf(piece) == PAWN && isEndRow(square)) {
            return -4;
        }
        int before = board[square];
        if (piece != NOTHING && before == NOTHING && countPieces() >= MOST_PIECES) {
            return -5;
        }
        board[square] = piece;
        return before;
    }

    public int clear() {
        if (going) {
            return -1;
        }
        int pieces = countPieces();
        for (int square = 0; square < SQUARES; square++) {
            board[square] = NOTHING;
        }
        return pieces;
    }

    public int begin(int side) {
        if (going) {
            return -1;
        }
        if (!isSide(side)) {
            return -2;
        }
        if (countKings(0) != 1 || countKings(1) != 1) {
            return -3;
        }
        if (inCheck(1 - side)) {
            return -4;
        }
        going = true;
        toMove = side;
        made = 0;
        quiet[0] = 0;
        keepPosition();
        return countLegal();
    }

    public int stop() {
        if (!going) {
            return -1;
        }
        going = false;
        return made;
    }

    public int move(int from, int to) {
        if (!going) {
            return -1;
        }
        if (wayOfBeingOver() != 0) {
            return -2;
        }
        if (!isLegal(from, to)) {
            return -3;
        }
        int number = (from << FROM_SHIFT) + to;
        play(0, number);
        boolean isQuiet = taken[0] == NOTHING && kindOf(moved[0]) != PAWN;
        quiet[made + 1] = isQuiet ? quiet[made] + 1 : 0;
        made++;
        keepPosition();
        return taken[0];
    }

    public int undo() {
        if (!going) {
            return -1;
        }
        if (made == 0) {
            return -2;
        }
        made--;
        toMove = 1 - toMove;
        for (int square = 0; square < SQUARES; square++) {
            board[square] = past[made * SQUARES + square];
        }
        return made;
    }

    public int result() {
        return going ? wayOfBeingOver() : -1;
    }

    public int pieceAt(int square) {
        return isSquare(square) ? board[square] : -1;
    }

    public int turn() {
        return going ? toMove : -1;
    }

    public int check() {
        if (!going) {
            return -1;
        }
        return inCheck(toMove) ? 1 : 0;
    }

    public int attackers(int square, int side) {
        if (!isSquare(square) || !isSide(side)) {
            return -1;
        }
        int found = 0;
        for (int from = 0; from < SQUARES; from++) {
            if (ownerOf(board[from]) == side && attacks(from, square)) {
                found++;
            }
        }
        return found;
    }

    public int moves() {
        return going ? countLegal() : -1;
    }

    public int moveAt(int k) {
        if (!going) {
            return -1;
        }
        if (k < 0) {
            return -2;
        }
        int number = nextLegal(NO_MOVE);
        for (int i = 0; i < k && number != NO_MOVE; i++) {
            number = nextLegal(number);
        }
        return number == NO_MOVE ? -2 : number;
    }

    public int mobile(int square) {
        if (!going) {
            return -1;
        }
        if (!isSquare(square)) {
            return 0;
        }
        int found = 0;
        int number = nextLegal((square << FROM_SHIFT) - 1);
        for (int i = 0; i < SQUARES && number >> FROM_SHIFT == square; i++) {
            found++;
            number = nextLegal(number);
        }
        return found;
    }

    public int count(int depth) {
        if (!going) {
            return -1;
        }
        if (depth < 0 || depth > 3) {
            return -2;
        }
        return depth == 0 ? 1 : countRows(depth);
    }

    public int value(int depth) {
        if (!going) {
            return -5000;
        }
        if (depth < 0 || depth > 3) {
            return -4000;
        }
        return lookAhead(depth);
    }

    public int best(int depth) {
        if (!going) {
            return -1;
        }
        if (depth < 1 || depth > 3) {
            return -2;
        }
        lookAhead(depth);
        return bestAtRoot == NO_MOVE ? -3 : bestAtRoot;
    }

    public int mate(int n) {
        if (!going) {
            return -1;
        }
        if (n < 1 || n > 2) {
            return -2;
        }
        return forcesMate(2 * n - 1) ? 1 : 0;
    }

    private static boolean isSquare(int square) {
        return square >= 0 && square < SQUARES;
    }

    private static boolean isSide(int side) {
        return side == 0 || side == 1;
    }

    private static boolean isPieceOrNothing(int piece) {
        return piece >= 0 && piece <= LAST_PIECE && kindOf(piece) <= KING
            && (piece == NOTHING || kindOf(piece) != NOTHING);
    }

    private static boolean isEndRow(int square) {
        return square < WIDTH || square >= SQUARES - WIDTH;
    }

    private static int kindOf(int piece) {
        return piece & KIND_MASK;
    }

    private static int ownerOf(int piece) {
        return piece == NOTHING ? -1 : piece >> SIDE_SHIFT;
    }

    private static int pieceOf(int kind, int side) {
        return kind + (side << SIDE_SHIFT);
    }

    private static int stepAhead(int side) {
        return side == 0 ? 1 : -1;
    }

    private static int worthOf(int piece) {
        switch (kindOf(piece)) {
            case PAWN:
                return 1;
            case KNIGHT:
            case BISHOP:
                return 3;
            case ROOK:
                return 5;
            case QUEEN:
                return 9;
            default:
                return 0;
        }
    }

    private int countPieces() {
        int found = 0;
        for (int square = 0; square < SQUARES; square++) {
            if (board[square] != NOTHING) {
                found++;
            }
        }
        return found;
    }

    private int countKings(int side) {
        int king = pieceOf(KING, side);
        int found = 0;
        for (int square = 0; square < SQUARES; square++) {
            if (board[square] == king) {
                found++;
            }
        }
        return found;
    }

    private int squareOfKing(int side) {
        int king = pieceOf(KING, side);
        for (int square = 0; square < SQUARES; square++) {
            if (board[square] == king) {
                return square;
            }
        }
        return -1;
    }

    private boolean inCheck(int side) {
        int king = squareOfKing(side);
        if (king < 0) {
            return false;
        }
        for (int from = 0; from < SQUARES; from++) {
            if (ownerOf(board[from]) == 1 - side && attacks(from, king)) {
                return true;
            }
        }
        return false;
    }

    private boolean attacks(int from, int to) {
        int rows = to / WIDTH - from / WIDTH;
        int columns = to % WIDTH - from % WIDTH;
        int distance = rows * rows + columns * columns;
        boolean straight = rows == 0 || columns == 0;
        boolean diagonal = rows == columns || rows == -columns;
        int piece = board[from];
        int side = ownerOf(piece);
        switch (kindOf(piece)) {
            case PAWN:
                return rows == stepAhead(side) && distance == 2;
            case KNIGHT:
                return distance == 5;
            case BISHOP:
                return diagonal && lineIsOpen(from, to);
            case ROOK:
                return straight && lineIsOpen(from, to);
            case QUEEN:
                return (straight || diagonal) && lineIsOpen(from, to);
            case KING:
                return distance == 1 || distance == 2;
            default:
                return false;
        }
    }

    /** For two squares on one row, column or diagonal; a square has no line to itself. */
    private boolean lineIsOpen(int from, int to) {
        int rows = to / WIDTH - from / WIDTH;
        int columns = to % WIDTH - from % WIDTH;
        int rowStep = rows > 0 ? 1 : rows < 0 ? -1 : 0;
        int columnStep = columns > 0 ? 1 : columns < 0 ? -1 : 0;
        int length = rows != 0 ? rows * rowStep : columns * columnStep;
        int step = rowStep * WIDTH + columnStep;
        for (int i = 1; i < length; i++) {
            if (board[from + i * step] != NOTHING) {
                return false;
            }
        }
        return length > 0;
    }

    /** For a piece of the side to move on 'from'; its king may be left in check. */
    private boolean isMove(int from, int to) {
        int target = board[to];
        if (ownerOf(target) == toMove) {
            return false;
        }
        if (kindOf(board[from]) == PAWN && target == NOTHING) {
            return to - from == stepAhead(toMove) * WIDTH;
        }
        return attacks(from, to);
    }

    /** The least number above 'after' of a legal move. */
    private int nextLegal(int after) {
        int start = after + 1;
        int startFrom = start >> FROM_SHIFT;
        for (int from = startFrom; from < SQUARES; from++) {
            if (ownerOf(board[from]) != toMove) {
                continue;
            }
            int startTo = from == startFrom ? start & TO_MASK : 0;
            for (int to = startTo; to < SQUARES; to++) {
                if (!isMove(from, to)) {
                    continue;
                }
                // What a pawn becomes is left out: it can't change whether its own king is attacked.
                int mover = board[from];
                int target = board[to];
                board[from] = NOTHING;
                board[to] = mover;
                boolean exposed = inCheck(toMove);
                board[from] = mover;
                board[to] = target;
                if (!exposed) {
                    return (from << FROM_SHIFT) + to;
                }
            }
        }
        return NO_MOVE;
    }

    private boolean isLegal(int from, int to) {
        if (!isSquare(from) || !isSquare(to)) {
            return false;
        }
        int number = (from << FROM_SHIFT) + to;
        return nextLegal(number - 1) == number;
    }

    private int countLegal() {
        int found = 0;
        int number = nextLegal(NO_MOVE);
        for (int i = 0; i < NUMBERS && number != NO_MOVE; i++) {
            found++;
            number = nextLegal(number);
        }
        return found;
    }

    private void keepPosition() {
        for (int square = 0; square < SQUARES; square++) {
            past[made * SQUARES + square] = board[square];
        }
    }

    private int wayOfBeingOver() {
        if (nextLegal(NO_MOVE) == NO_MOVE) {
            return inCheck(toMove) ? 1 : 2;
        }
        if (timesStood() >= REPEATS_TO_END) {
            return 3;
        }
        if (quiet[made] >= LONGEST_QUIET) {
            return 4;
        }
        return made >= LONGEST_GAME ? 5 : 0;
    }

    private int timesStood() {
        int times = 0;
        // The same side is to move after every second move only.
        for (int earlier = made; earlier >= 0; earlier -= 2) {
            if (stoodAfter(earlier)) {
                times++;
            }
        }
        return times;
    }

    private boolean stoodAfter(int movesMade) {
        for (int square = 0; square < SQUARES; square++) {
            if (past[movesMade * SQUARES + square] != board[square]) {
                return false;
            }
        }
        return true;
    }

    private void play(int level, int number) {
        int from = number >> FROM_SHIFT;
        int to = number & TO_MASK;
        int piece = board[from];
        tried[level] = number;
        moved[level] = piece;
        taken[level] = board[to];
        boolean becomesQueen = kindOf(piece) == PAWN && isEndRow(to);
        board[from] = NOTHING;
        board[to] = becomesQueen ? pieceOf(QUEEN, toMove) : piece;
        toMove = 1 - toMove;
    }

    private void takeBack(int level) {
        int number = tried[level];
        board[number >> FROM_SHIFT] = moved[level];
        board[number & TO_MASK] = taken[level];
        toMove = 1 - toMove;
    }

    private int countRows(int depth) {
        int rows = 0;
        int level = 0;
        tried[0] = NO_MOVE;
        for (int step = 0; step < MOST_STEPS; step++) {
            int next = nextLegal(tried[level]);
            if (next == NO_MOVE && level == 0) {
                return rows;
            }
            if (next == NO_MOVE) {
                level--;
                takeBack(level);
            } else if (level == depth - 1) {
                // The last move of a row need not be made to be counted.
                tried[level] = next;
                rows++;
            } else {
                play(level, next);
                level++;
                tried[level] = NO_MOVE;
            }
        }
        return rows;
    }

    /** The value with a depth; the first move that reaches it is left in bestAtRoot. */
    private int lookAhead(int depth) {
        int level = 0;
        bestAtRoot = NO_MOVE;
        openLevel(0);
        for (int step = 0; step < MOST_STEPS; step++) {
            int next = level < depth ? nextLegal(tried[level]) : NO_MOVE;
            if (next != NO_MOVE) {
                play(level, next);
                level++;
                openLevel(level);
                continue;
            }
            int found = valueOfLevel(level, depth - level);
            if (level == 0) {
                return found;
            }
            level--;
            takeBack(level);
            if (-found > greatest[level]) {
                greatest[level] = -found;
                bestAtRoot = level == 0 ? tried[0] : bestAtRoot;
            }
        }
        return 0;
    }

    private void openLevel(int level) {
        tried[level] = NO_MOVE;
        greatest[level] = BELOW_ALL_VALUES;
    }

    private int valueOfLevel(int level, int depthLeft) {
        if (depthLeft == 0) {
            return balance();
        }
        if (tried[level] != NO_MOVE) {
            return greatest[level];
        }
        return inCheck(toMove) ? MATED - depthLeft : 0;
    }

    private int balance() {
        int sum = 0;
        for (int square = 0; square < SQUARES; square++) {
            int piece = board[square];
            int worth = worthOf(piece);
            sum += ownerOf(piece) == toMove ? worth : -worth;
        }
        return sum;
    }

    /**
     * Whether the side to move forces a mate that stands at level 'last' or before. The levels go by
     * turns: at even ones the attacker wants the mate, at odd ones the defender wants to escape it,
     * and each gets its will if one of its moves leads to a level where the other does not.
     */
    private boolean forcesMate(int last) {
        int level = 0;
        tried[0] = NO_MOVE;
        for (int step = 0; step < MOST_STEPS; step++) {
            int next = nextLegal(tried[level]);
            if (next != NO_MOVE && level < last) {
                play(level, next);
                level++;
                tried[level] = NO_MOVE;
                continue;
            }
            if (level % 2 == 1 && escapes(level, next)) {
                level--;
                takeBack(level);
                continue;
            }
            if (level == 0) {
                return false;
            }
            // This level fails, so the one above has its will, and the move that led to that one is spoilt.
            level--;
            takeBack(level);
            if (level == 0) {
                return true;
            }
            level--;
            takeBack(level);
        }
        return false;
    }

    /** For a defender's level with 'next' as the move it could go on with, no earlier one having helped. */
    private boolean escapes(int level, int next) {
        if (next != NO_MOVE) {
            return true;
        }
        return tried[level] == NO_MOVE && !inCheck(toMove);
    }
}
