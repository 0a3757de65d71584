/** What the tests of the project share: setting up, playing, comparing answers, telling what is wrong. */
class Checks {
    static final int MIN = Integer.MIN_VALUE;
    static final int MAX = Integer.MAX_VALUE;
    // 1 << 26 becomes 0 when it is multiplied by 64, as a move's number does with 'from'.
    static final int[] WRONG_SQUARES = {-1, 36, -36, 63, 64, 1 << 26, MIN, MIN + 1, MAX};
    static final int[] WRONG_SIDES = {-1, 2, 8, 256, MIN, MAX};
    static final int[] WRONG_PIECES = {-1, 7, 8, 15, 16, 22, -8, -2, 1 << 26, MIN, MIN + 1, MAX};
    static final int[] ANY_NUMBERS = {MIN, MIN + 1, -5, -1, 0, 1, 2, 3, 4, 7, 14, 35, 36, 64, 1 << 26, MAX};
    static final int[] PIECES = {1, 2, 3, 4, 5, 6, 9, 10, 11, 12, 13, 14};

    private static final int MOST_TOLD = 40;
    private static int wrong = 0;
    private static int compared = 0;
    private static String quoted = "";

    /** The sentence of the document that the comparisons below it stand for. */
    static void sentence(String words) {
        quoted = "'" + words + "' ";
    }

    static void due(String what, int got, int want) {
        compared++;
        if (got != want && wrong++ < MOST_TOLD) {
            System.out.println(quoted + what + " answered " + got + ", due is " + want);
        }
    }

    static void due(String what, boolean held) {
        due(what, held ? 1 : 0, 1);
    }

    static void end() {
        System.out.println(wrong == 0 ? "all " + compared + " answers are as due" : wrong + " answers are not as due");
        if (wrong != 0) {
            System.exit(1);
        }
    }

    /** A board with the given squares and pieces, by turns. */
    static SmallBoard with(int... squaresAndPieces) {
        SmallBoard x = new SmallBoard();
        for (int i = 0; i < squaresAndPieces.length; i += 2) {
            due("with: put(" + squaresAndPieces[i] + ")", x.put(squaresAndPieces[i], squaresAndPieces[i + 1]), 0);
        }
        return x;
    }

    /** A game just begun, with the number of legal moves that begin is to answer. */
    static SmallBoard game(int side, int legal, int... squaresAndPieces) {
        SmallBoard x = with(squaresAndPieces);
        due("game: begin", x.begin(side), legal);
        return x;
    }

    /** A game just begun, for tests that do not care how many legal moves there are. */
    static SmallBoard begun(int side, int... squaresAndPieces) {
        SmallBoard x = with(squaresAndPieces);
        due("begun: begin", x.begin(side) >= 0);
        return x;
    }

    /** A game with kings in corners where neither is in check; they keep off the square 'free'. */
    static SmallBoard amongKings(int side, int free, int... squaresAndPieces) {
        int[] corners = {0, 5, 30, 35};
        for (int i = 0; i < 16; i++) {
            int zero = corners[i / 4];
            int one = corners[i % 4];
            SmallBoard x = with(squaresAndPieces);
            boolean apart = zero != one && zero != free && one != free;
            if (!apart || x.pieceAt(zero) != 0 || x.pieceAt(one) != 0) {
                continue;
            }
            x.put(zero, 6);
            x.put(one, 14);
            if (x.attackers(zero, 1) == 0 && x.attackers(one, 0) == 0) {
                due("begin among kings", x.begin(side) >= 0);
                return x;
            }
        }
        due("corners for the kings are found", false);
        return new SmallBoard();
    }

    /** A square as the sides see it from their own ends of the board: the same for side 0, turned for side 1. */
    static int seenBy(int side, int square) {
        return side == 0 ? square : 35 - square;
    }

    /** A game just begun by the side, with a board that is told as if that were side 0. */
    static SmallBoard begunBy(int side, int... squaresAndPieces) {
        int[] turned = squaresAndPieces.clone();
        for (int i = 0; i < turned.length; i += 2) {
            turned[i] = seenBy(side, turned[i]);
            turned[i + 1] ^= 8 * side;
        }
        return begun(side, turned);
    }

    static void boardIs(String what, SmallBoard x, int... squaresAndPieces) {
        int[] want = new int[36];
        for (int i = 0; i < squaresAndPieces.length; i += 2) {
            want[squaresAndPieces[i]] = squaresAndPieces[i + 1];
        }
        for (int square = 0; square < 36; square++) {
            due(what + ": pieceAt(" + square + ")", x.pieceAt(square), want[square]);
        }
    }

    /** Moves that capture nothing, in a game that is not over before any of them. */
    static void play(String what, SmallBoard x, int... fromsAndTos) {
        for (int i = 0; i < fromsAndTos.length; i += 2) {
            due(what + ": result before move " + i / 2, x.result(), 0);
            due(what + ": move " + i / 2, x.move(fromsAndTos[i], fromsAndTos[i + 1]), 0);
        }
    }

    private static int onLap(int[] lap, int at) {
        return lap[at % lap.length];
    }

    /**
     * The first 'moves' moves of a game of kings that walk along the rows at the ends, where side 0's
     * pawns make the moves 'pawnMoves' (0 is the game's first one). No position stands twice in it.
     */
    static void longGame(String what, SmallBoard x, int side, int moves, int... pawnMoves) {
        int[] lapOfZero = {0, 1, 2, 3, 4, 5, 11, 10, 9, 8, 7, 6};
        int[] lapOfOne = {35, 34, 33, 32, 31, 30, 31, 32, 33, 34};
        int[] pawns = {12, 14, 17};
        int atZero = 0;
        int atOne = 0;
        int pawn = 0;
        for (int i = 0; i < moves; i++) {
            if (pawn < pawnMoves.length && pawnMoves[pawn] == i) {
                play(what, x, pawns[pawn], pawns[pawn] + 6);
                pawn++;
            } else if ((i + side) % 2 == 0) {
                play(what, x, onLap(lapOfZero, atZero), onLap(lapOfZero, atZero + 1));
                atZero++;
            } else {
                play(what, x, onLap(lapOfOne, atOne), onLap(lapOfOne, atOne + 1));
                atOne++;
            }
        }
    }

    /** Two kings alone, after the given number of moves of a game without repeats. */
    static SmallBoard kingsAfter(int moves) {
        SmallBoard x = game(0, 3, 0, 6, 35, 14);
        longGame("kings", x, 0, moves);
        return x;
    }

    /** Kings and three pawns of side 0, after the given number of moves; up to 60 it is over by no other way. */
    static SmallBoard pawnsAfter(int moves) {
        SmallBoard x = game(0, 6, 0, 6, 35, 14, 12, 1, 14, 1, 17, 1);
        longGame("pawns", x, 0, moves, 18, 36, 54);
        return x;
    }

    /** Two kings alone that go to and fro; after 8 moves the first position stands for the third time. */
    static SmallBoard roundsAfter(int moves) {
        int[] round = {0, 1, 35, 34, 1, 0, 34, 35};
        SmallBoard x = game(0, 3, 0, 6, 35, 14);
        for (int i = 0; i < moves; i++) {
            play("rounds", x, round[2 * i % 8], round[2 * i % 8 + 1]);
        }
        return x;
    }

    /** King 13 and rook 16 against king 0: rook to 4 mates, and rook by way of 10 to 7 leaves no move. */
    static SmallBoard cornered() {
        return game(0, 14, 0, 14, 13, 6, 16, 4);
    }

    static SmallBoard mated() {
        return game(1, 0, 0, 14, 7, 5, 14, 6);
    }

    static SmallBoard stalemated() {
        return game(1, 0, 0, 14, 8, 5, 14, 6);
    }

    /** How many moves the game over(way) has. */
    static final int[] MADE_IN_OVER = {0, 1, 5, 8, 20, 60};

    /** A game that moves have brought to its end by each of the ways 1 to 5. */
    static SmallBoard over(int way) {
        SmallBoard x;
        switch (way) {
            case 1:
                x = cornered();
                play("over by 1", x, 16, 4);
                break;
            case 2:
                x = cornered();
                play("over by 2", x, 16, 10, 0, 1, 10, 11, 1, 0, 11, 7);
                break;
            case 3:
                x = roundsAfter(8);
                break;
            case 4:
                x = kingsAfter(20);
                break;
            default:
                x = pawnsAfter(60);
                break;
        }
        due("over(" + way + ")", x.result(), way);
        return x;
    }
}
