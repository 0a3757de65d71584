/** The sentences of the document ahead of its promises; each test quotes the one it stands for. */
public final class TermsTest extends Checks {
    private interface Reach {
        boolean covers(int rows, int columns);
    }

    // ---- What it is

    private static void lastOfManyMovesAndUndos() {
        sentence("An object is used for at most 512 calls after it has been made");
        SmallBoard x = new SmallBoard();
        x.put(0, 6);
        x.put(35, 14);
        x.begin(0);
        for (int i = 0; i < 254; i++) {
            due("move in pair " + i, x.move(0, 1 + 5 * (i % 2)), 0);
            due("undo in pair " + i, x.undo(), 0);
        }
        due("call 512", x.move(0, 7), 0);
    }

    private static void lastOfManyGames() {
        sentence("An object is used for at most 512 calls after it has been made");
        SmallBoard x = new SmallBoard();
        x.put(0, 6);
        x.put(35, 14);
        for (int i = 0; i < 127; i++) {
            boolean zero = i % 2 == 0;
            due("begin of game " + i, x.begin(zero ? 0 : 1), 3);
            due("move of game " + i, x.move(zero ? 0 : 35, zero ? 1 : 34), 0);
            due("undo of game " + i, x.undo(), 0);
            due("stop of game " + i, x.stop(), 0);
        }
        due("call 511", x.begin(0), 3);
        due("call 512", x.count(3), 54);
    }

    private static void lastOfManyPuts() {
        sentence("An object is used for at most 512 calls after it has been made");
        SmallBoard x = new SmallBoard();
        for (int i = 0; i < 255; i++) {
            due("put " + i, x.put(6 + i % 24, PIECES[i % 12]), 0);
            due("put away " + i, x.put(6 + i % 24, 0), PIECES[i % 12]);
        }
        due("call 511", x.put(35, 14), 0);
        due("call 512", x.clear(), 1);
    }

    private static void lastOfManyRefusals() {
        sentence("An object is used for at most 512 calls after it has been made");
        SmallBoard x = new SmallBoard();
        for (int i = 0; i < 511; i++) {
            due("refusal " + i, x.put(36, 1), -1);
        }
        due("call 512", x.put(35, 14), 0);
    }

    private static void longGamesTakenBack() {
        sentence("An object is used for at most 512 calls after it has been made");
        SmallBoard x = with(0, 6, 35, 14, 12, 1, 14, 1, 17, 1);
        for (int i = 0; i < 2; i++) {
            due("begin " + i, x.begin(0), 6);
            longGame("game " + i, x, 0, 60, 18, 36, 54);
            due("result " + i, x.result(), 5);
            for (int left = 59; left >= 0; left--) {
                due("undo in game " + i, x.undo(), left);
            }
            due("stop " + i, x.stop(), 0);
        }
    }

    // ---- The board and the pieces

    private static void squares() {
        sentence("THE BOARD has 36 SQUARES, the numbers 0 to 35");
        for (int square = 0; square < 36; square++) {
            SmallBoard x = with(square, 2);
            boardIs("a knight on " + square, x, square, 2);
        }
        SmallBoard x = with(0, 2, 35, 10);
        for (int square : WRONG_SQUARES) {
            due("put(" + square + ")", x.put(square, 2), -1);
            due("pieceAt(" + square + ")", x.pieceAt(square), -1);
            due("attackers(" + square + ")", x.attackers(square, 0), -1);
        }
        boardIs("after wrong squares", x, 0, 2, 35, 10);
    }

    private static void rowsAndColumns() {
        sentence("square 6 * row + column, rows 0 to 5, columns 0 to 5");
        for (int row = 0; row < 6; row++) {
            for (int column = 0; column < 6; column++) {
                SmallBoard x = with(6 * row + column, 4);
                for (int other = 0; other < 6; other++) {
                    due("rook along its row", x.attackers(6 * row + other, 0), other == column ? 0 : 1);
                    due("rook along its column", x.attackers(6 * other + column, 0), other == row ? 0 : 1);
                }
            }
        }
    }

    private static void sides() {
        sentence("The sides are 0 (its pawns move to greater rows) and 1 (its pawns move to lesser rows).");
        for (int square = 6; square < 30; square++) {
            SmallBoard x = amongKings(0, square + 6, square, 1);
            due("pawn of side 0 on " + square + " back", x.move(square, square - 6), -3);
            due("pawn of side 0 on " + square + " ahead", x.move(square, square + 6), 0);
            x = amongKings(1, square - 6, square, 9);
            due("pawn of side 1 on " + square + " back", x.move(square, square + 6), -3);
            due("pawn of side 1 on " + square + " ahead", x.move(square, square - 6), 0);
        }
    }

    private static void pieces() {
        sentence("PIECES are 1 pawn, 2 knight, 3 bishop, 4 rook, 5 queen, 6 king for side 0, and 9 to 14, "
            + "in the same order, for side 1; 0 stands for none.");
        // On an empty board, from square 14: how many squares each piece attacks.
        int[] reached = {0, 2, 8, 9, 10, 19, 8};
        for (int piece : PIECES) {
            SmallBoard x = with(14, piece);
            due("piece " + piece, x.pieceAt(14), piece);
            due("piece " + piece + " on other squares", x.pieceAt(15), 0);
            int ofZero = 0;
            int ofOne = 0;
            for (int square = 0; square < 36; square++) {
                ofZero += x.attackers(square, 0);
                ofOne += x.attackers(square, 1);
            }
            due("piece " + piece + " attacks for side 0", ofZero, piece < 8 ? reached[piece] : 0);
            due("piece " + piece + " attacks for side 1", ofOne, piece < 8 ? 0 : reached[piece - 8]);
            due("piece " + piece + " taken away", x.put(14, 0), piece);
            due("none is left", x.pieceAt(14), 0);
        }
        SmallBoard x = with(14, 6);
        for (int piece : WRONG_PIECES) {
            due("put(14, " + piece + ")", x.put(14, piece), -2);
        }
        due("after wrong pieces", x.pieceAt(14), 6);
    }

    private static void sixPieces() {
        sentence("There are at most 6 pieces on the board.");
        SmallBoard x = new SmallBoard();
        for (int square = 0; square < 36; square += 7) {
            due("piece on " + square, x.put(square, 2), 0);
        }
        for (int square = 0; square < 36; square++) {
            if (square % 7 != 0) {
                due("a seventh on " + square, x.put(square, 2), -5);
                due("a seventh of side 1 on " + square, x.put(square, 14), -5);
            }
        }
        boardIs("six", x, 0, 2, 7, 2, 14, 2, 21, 2, 28, 2, 35, 2);
        due("clear", x.clear(), 6);
    }

    private static void sixPiecesAfterCapture() {
        sentence("There are at most 6 pieces on the board.");
        SmallBoard x = begun(0, 0, 6, 35, 14, 8, 4, 20, 10, 5, 2, 30, 11);
        due("rook takes knight", x.move(8, 20), 10);
        x.stop();
        due("a sixth fits again", x.put(21, 10), 0);
        due("a seventh does not", x.put(22, 10), -5);
        due("all", x.clear(), 6);
        x = begun(0, 0, 6, 35, 14, 8, 4, 20, 10, 5, 2, 30, 11);
        due("rook takes knight", x.move(8, 20), 10);
        x.undo();
        x.stop();
        due("none fits after the capture was taken back", x.put(21, 10), -5);
    }

    private static void sixPiecesAfterQueening() {
        sentence("There are at most 6 pieces on the board.");
        SmallBoard x = begun(0, 0, 6, 35, 14, 25, 1, 6, 2, 7, 2);
        due("becomes a queen", x.move(25, 31), 0);
        x.stop();
        due("the queen is one piece", x.put(21, 10), 0);
        due("a seventh does not fit", x.put(22, 10), -5);
    }

    // ---- What a piece attacks

    private static void reachIs(int piece, Reach reach) {
        int side = piece / 8;
        for (int from = 0; from < 36; from++) {
            if (piece % 8 == 1 && (from < 6 || from >= 30)) {
                continue;
            }
            SmallBoard x = with(from, piece);
            for (int to = 0; to < 36; to++) {
                boolean covered = reach.covers(to / 6 - from / 6, to % 6 - from % 6);
                String what = "piece " + piece + " on " + from + ", attackers of " + to;
                due(what, x.attackers(to, side), covered ? 1 : 0);
                due(what + " for the other side", x.attackers(to, 1 - side), 0);
            }
        }
    }

    private static boolean isStraight(int rows, int columns) {
        return (rows == 0) != (columns == 0);
    }

    private static boolean isDiagonal(int rows, int columns) {
        return rows != 0 && Math.abs(rows) == Math.abs(columns);
    }

    private static void kingAttacks() {
        sentence("a king all squares next to it (also diagonally)");
        Reach reach = (rows, columns) -> Math.max(Math.abs(rows), Math.abs(columns)) == 1;
        reachIs(6, reach);
        reachIs(14, reach);
    }

    private static void knightAttacks() {
        sentence("a knight all squares two rows and one column, or one row and two columns, away");
        Reach reach = (rows, columns) -> Math.abs(rows * columns) == 2;
        reachIs(2, reach);
        reachIs(10, reach);
        // Pieces all around it are not in its way.
        SmallBoard x = with(14, 2, 8, 11, 13, 11, 15, 11, 20, 11, 7, 1);
        for (int to : new int[] {1, 3, 6, 10, 18, 22, 25, 27}) {
            due("leaps to " + to, x.attackers(to, 0), 1);
        }
    }

    private static void rookAttacks() {
        sentence("a rook, in each of the four directions along its row and its column, "
            + "the squares up to the first one that has a piece, that one too");
        reachIs(4, TermsTest::isStraight);
        reachIs(12, TermsTest::isStraight);
        linesEndAt(4, TermsTest::isStraight);
        linesEndAt(12, TermsTest::isStraight);
    }

    private static void bishopAttacks() {
        sentence("a bishop the same along the four diagonals");
        reachIs(3, TermsTest::isDiagonal);
        reachIs(11, TermsTest::isDiagonal);
        linesEndAt(3, TermsTest::isDiagonal);
        linesEndAt(11, TermsTest::isDiagonal);
    }

    private static void queenAttacks() {
        sentence("a queen all that a rook or a bishop there would attack");
        Reach reach = (rows, columns) -> isStraight(rows, columns) || isDiagonal(rows, columns);
        reachIs(5, reach);
        reachIs(13, reach);
        linesEndAt(5, reach);
        linesEndAt(13, reach);
    }

    /** With a knight of either side in the way at each square: a knight itself attacks nothing on its lines. */
    private static void linesEndAt(int piece, Reach reach) {
        for (int from = 0; from < 36; from++) {
            for (int at = 0; at < 36; at++) {
                if (reach.covers(at / 6 - from / 6, at % 6 - from % 6)) {
                    lineEndsAt(piece, from, at, 2);
                    lineEndsAt(piece, from, at, 10);
                }
            }
        }
    }

    private static void lineEndsAt(int piece, int from, int at, int blocker) {
        SmallBoard x = with(from, piece, at, blocker);
        int rowStep = Integer.signum(at / 6 - from / 6);
        int columnStep = Integer.signum(at % 6 - from % 6);
        int row = from / 6 + rowStep;
        int column = from % 6 + columnStep;
        int want = 1;
        while (row >= 0 && row < 6 && column >= 0 && column < 6) {
            int to = 6 * row + column;
            String what = "piece " + piece + " on " + from + " with " + blocker + " on " + at + ", " + to;
            due(what, x.attackers(to, piece / 8), want);
            want = to == at ? 0 : want;
            row += rowStep;
            column += columnStep;
        }
    }

    private static void pawnAttacks() {
        sentence("a pawn the squares one row ahead and one column to either side");
        reachIs(1, (rows, columns) -> rows == 1 && Math.abs(columns) == 1);
        reachIs(9, (rows, columns) -> rows == -1 && Math.abs(columns) == 1);
    }

    private static void whatStandsThereDoesNotMatter() {
        sentence("(What stands on an attacked square does not matter.)");
        int[] targetsFrom14 = {0, 21, 22, 21, 15, 7, 13};
        for (int kind = 1; kind <= 6; kind++) {
            for (int side = 0; side < 2; side++) {
                int target = kind == 1 && side == 1 ? 9 : targetsFrom14[kind];
                SmallBoard x = with(14, kind + 8 * side);
                for (int on : new int[] {0, 1, 2, 3, 4, 5, 6, 9, 10, 11, 12, 13, 14}) {
                    x.put(target, on);
                    due("kind " + kind + " of side " + side + ", on " + target + " stands " + on,
                        x.attackers(target, side), 1);
                }
            }
        }
    }

    private static void inCheck() {
        sentence("A side is IN CHECK if a piece of the other side attacks the square of its king.");
        for (int kind = 1; kind <= 5; kind++) {
            for (int square = 6; square < 30; square++) {
                if (square != 14) {
                    checkOfKingOn14(0, square, kind);
                    checkOfKingOn14(1, square, kind);
                }
            }
        }
    }

    private static void checkOfKingOn14(int side, int square, int kind) {
        int rows = 14 / 6 - square / 6;
        int columns = 14 % 6 - square % 6;
        boolean attacked = kind == 1 ? rows == 2 * side - 1 && Math.abs(columns) == 1
            : kind == 2 ? Math.abs(rows * columns) == 2
            : kind != 4 && isDiagonal(rows, columns) || kind != 3 && isStraight(rows, columns);
        String what = "king of side " + side + " on 14, kind " + kind + " on " + square;
        SmallBoard x = begun(side, 14, 6 + 8 * side, 5, 14 - 8 * side, square, kind + 8 * (1 - side));
        due(what, x.check(), attacked ? 1 : 0);
        // A piece of the king's own side, with the other king in a corner that it does not attack.
        for (int corner : new int[] {0, 5, 30, 35}) {
            x = with(14, 6 + 8 * side, square, kind + 8 * side, corner, 14 - 8 * side);
            if (x.attackers(corner, side) == 0) {
                x.begin(side);
                due(what + " of its own side", x.check(), 0);
            }
        }
    }

    private static void pinnedPiecesGiveCheckToo() {
        sentence("A side is IN CHECK if a piece of the other side attacks the square of its king.");
        // Side 1's rook may not leave column 2, yet king 12 may not go where it attacks.
        SmallBoard x = begun(0, 2, 4, 20, 12, 32, 14, 12, 6);
        due("to 18", x.move(12, 18), -3);
        due("to 19", x.move(12, 19), -3);
        due("the rest", x.mobile(12), 3);
    }

    // ---- Moves

    private static void onlyItsOwnPieces() {
        sentence("A MOVE (from, to) of a side takes a piece of that side");
        SmallBoard x = begun(0, 0, 6, 35, 14, 14, 4, 21, 12);
        due("none on 'from'", x.move(1, 2), -3);
        due("other side's king", x.move(35, 34), -3);
        due("other side's rook", x.move(21, 20), -3);
        due("other side's rook, mobile", x.mobile(21), 0);
        due("its rook", x.move(14, 13), 0);
        due("side 0's rook, side 1 to move", x.move(13, 14), -3);
        due("side 1's rook", x.move(21, 20), 0);
    }

    private static void toAnotherSquare() {
        sentence("from the square 'from' to another square 'to'");
        for (int piece = 1; piece <= 5; piece++) {
            SmallBoard x = begun(0, 0, 6, 23, 14, 14, piece);
            due("piece " + piece + " stays", x.move(14, 14), -3);
            due("king stays", x.move(0, 0), -3);
            for (int k = 0; k < x.moves(); k++) {
                int number = x.moveAt(k);
                due("number " + number + " leaves its square", number / 64 != number % 64);
            }
        }
    }

    private static void notOntoItsOwn() {
        sentence("which has no piece of that side");
        SmallBoard x = begun(0, 0, 6, 34, 14, 7, 5, 14, 3, 9, 4, 22, 2);
        due("king onto queen", x.move(0, 7), -3);
        due("queen onto bishop", x.move(7, 14), -3);
        due("queen onto rook", x.move(7, 9), -3);
        due("queen past bishop", x.move(7, 21), -3);
        due("knight onto rook", x.move(22, 9), -3);
        due("knight onto bishop", x.move(22, 14), -3);
        due("queen next to rook", x.move(7, 8), 0);
        x = begun(0, 0, 6, 35, 14, 14, 1, 21, 2, 20, 2);
        due("pawn aslant onto its own", x.move(14, 21), -3);
        due("pawn ahead onto its own", x.move(14, 20), -3);
        x = begun(1, 0, 6, 35, 14, 21, 9, 14, 10, 15, 10);
        due("pawn of 1 aslant onto its own", x.move(21, 14), -3);
        due("pawn of 1 ahead onto its own", x.move(21, 15), -3);
    }

    private static void captures() {
        sentence("a piece of the other side on it is CAPTURED and gone");
        for (int kind = 1; kind <= 5; kind++) {
            SmallBoard x = begun(0, 0, 6, 35, 14, 26, 4, 8, kind + 8);
            due("rook of 0 takes " + kind, x.move(26, 8), kind + 8);
            boardIs("taken", x, 0, 6, 35, 14, 8, 4);
            x.stop();
            due("three are left", x.clear(), 3);
            x = begun(1, 0, 6, 35, 14, 27, 12, 9, kind);
            due("rook of 1 takes " + kind, x.move(27, 9), kind);
            boardIs("taken", x, 0, 6, 35, 14, 9, 12);
            x.stop();
            due("three are left", x.clear(), 3);
        }
        SmallBoard x = begun(0, 0, 6, 35, 14, 7, 10);
        due("king takes knight", x.move(0, 7), 10);
        boardIs("taken by the king", x, 7, 6, 35, 14);
    }

    private static void toWhatItAttacks() {
        sentence("It is a move if the piece attacks 'to'");
        int[] reached = {0, 0, 8, 9, 10, 19};
        for (int kind = 2; kind <= 5; kind++) {
            SmallBoard x = begun(0, 0, 6, 35, 14, 15, kind);
            for (int to = 0; to < 36; to++) {
                boolean can = with(15, kind).attackers(to, 0) == 1;
                due("kind " + kind + " from 15 to " + to, x.move(15, to), can ? 0 : -3);
                if (can) {
                    x.undo();
                }
            }
            due("kind " + kind + " from 15", x.mobile(15), reached[kind]);
        }
    }

    private static void pawnMovesAslantOnlyToCapture() {
        sentence("but a pawn moves to an attacked square only if it captures there");
        for (int square = 12; square < 18; square++) {
            for (int step = -1; step <= 1; step += 2) {
                // At the edge this is the square that counting on over it leads to.
                boolean onBoard = square % 6 + step >= 0 && square % 6 + step < 6;
                pawnAslant(0, square, square + 6 + step, onBoard);
                pawnAslant(1, square, square - 6 + step, onBoard);
            }
        }
    }

    private static void pawnAslant(int side, int square, int to, boolean attacked) {
        int pawn = 1 + 8 * side;
        int own = 2 + 8 * side;
        int other = 10 - 8 * side;
        String what = "pawn " + pawn + " from " + square + " to " + to;
        due(what + ", none there", amongKings(side, to, square, pawn).move(square, to), -3);
        due(what + ", its own there", amongKings(side, to, square, pawn, to, own).move(square, to), -3);
        due(what + ", other's there", amongKings(side, to, square, pawn, to, other).move(square, to),
            attacked ? other : -3);
    }

    private static void pawnMovesAhead() {
        sentence("and it moves also to the square one row ahead if that has no piece");
        for (int square = 6; square < 30; square++) {
            for (int side = 0; side < 2; side++) {
                int ahead = side == 0 ? square + 6 : square - 6;
                SmallBoard x = amongKings(side, ahead, square, 1 + 8 * side);
                for (int to = 0; to < 36; to++) {
                    if (to != ahead) {
                        due("pawn of " + side + " from " + square + " to " + to, x.move(square, to), -3);
                    }
                }
                due("pawn of " + side + " from " + square, x.mobile(square), 1);
                due("pawn of " + side + " ahead from " + square, x.move(square, ahead), 0);
            }
        }
    }

    private static void pawnIsStopped() {
        sentence("and it moves also to the square one row ahead if that has no piece");
        for (int piece : new int[] {1, 2, 3, 4, 5, 9, 10, 11, 12, 13}) {
            SmallBoard x = amongKings(0, 27, 15, 1, 21, piece);
            due("pawn ahead onto " + piece, x.move(15, 21), -3);
            due("pawn past " + piece, x.move(15, 27), -3);
            due("pawn is stopped by " + piece, x.mobile(15), 0);
            x = amongKings(1, 9, 21, 9, 15, piece);
            due("pawn of 1 ahead onto " + piece, x.move(21, 15), -3);
            due("pawn of 1 past " + piece, x.move(21, 9), -3);
            due("pawn of 1 is stopped by " + piece, x.mobile(21), 0);
        }
    }

    private static void pawnsSideBySide() {
        sentence("but a pawn moves to an attacked square only if it captures there");
        for (int side = 0; side < 2; side++) {
            int pawn = seenBy(side, 20);
            SmallBoard x = begunBy(side, 0, 6, 35, 14, 20, 1, 21, 9);
            due("aslant behind a pawn", x.move(pawn, seenBy(side, 27)), -3);
            due("only ahead", x.mobile(pawn), 1);
            x = begunBy(side, 0, 6, 35, 14, 14, 1, 27, 9);
            play("the other pawn comes beside it", x, seenBy(side, 14), pawn, seenBy(side, 27), seenBy(side, 21));
            due("aslant behind a pawn that just came", x.move(pawn, seenBy(side, 27)), -3);
            due("only ahead", x.mobile(pawn), 1);
        }
    }

    private static void becomesQueen() {
        sentence("A pawn that comes to row 5 (side 0) or row 0 (side 1) becomes a queen of its side.");
        for (int column = 0; column < 6; column++) {
            for (int side = 0; side < 2; side++) {
                int from = column + (side == 0 ? 24 : 6);
                int to = column + (side == 0 ? 30 : 0);
                SmallBoard x = amongKings(side, to, from, 1 + 8 * side);
                due("pawn of " + side + " ahead in column " + column, x.move(from, to), 0);
                due("queen of " + side + " in column " + column, x.pieceAt(to), 5 + 8 * side);
                due("pawn is gone", x.pieceAt(from), 0);
            }
        }
    }

    private static void becomesQueenByCapture() {
        sentence("A pawn that comes to row 5 (side 0) or row 0 (side 1) becomes a queen of its side.");
        for (int column = 0; column < 6; column++) {
            for (int aside = column - 1; aside <= column + 1; aside += 2) {
                for (int side = 0; side < 2 && aside >= 0 && aside < 6; side++) {
                    int from = column + (side == 0 ? 24 : 6);
                    int to = aside + (side == 0 ? 30 : 0);
                    int knight = side == 0 ? 10 : 2;
                    SmallBoard x = amongKings(side, to, from, 1 + 8 * side, to, knight);
                    due("pawn of " + side + " captures from column " + column, x.move(from, to), knight);
                    due("queen of " + side + " after a capture", x.pieceAt(to), 5 + 8 * side);
                    due("pawn is gone after a capture", x.pieceAt(from), 0);
                }
            }
        }
    }

    private static void becomesQueenNoSooner() {
        sentence("A pawn that comes to row 5 (side 0) or row 0 (side 1) becomes a queen of its side.");
        for (int row = 1; row <= 3; row++) {
            SmallBoard x = begun(0, 5, 6, 35, 14, 6 * row + 1, 1);
            x.move(6 * row + 1, 6 * row + 7);
            due("pawn on row " + (row + 1), x.pieceAt(6 * row + 7), 1);
            x = begun(1, 5, 6, 35, 14, 6 * row + 7, 9);
            x.move(6 * row + 7, 6 * row + 1);
            due("pawn of 1 on row " + row, x.pieceAt(6 * row + 1), 9);
        }
    }

    private static void onlyPawnsBecomeQueens() {
        sentence("A pawn that comes to row 5 (side 0) or row 0 (side 1) becomes a queen of its side.");
        int[] steps = {0, 0, 13, 7, 6};
        for (int kind = 2; kind <= 4; kind++) {
            SmallBoard x = amongKings(0, 33, 33 - steps[kind], kind);
            due("kind " + kind + " to row 5", x.move(33 - steps[kind], 33), 0);
            due("kind " + kind + " stays what it is", x.pieceAt(33), kind);
            x = amongKings(1, 2, 2 + steps[kind], kind + 8);
            due("kind " + kind + " of 1 to row 0", x.move(2 + steps[kind], 2), 0);
            due("kind " + kind + " of 1 stays what it is", x.pieceAt(2), kind + 8);
        }
        SmallBoard x = begun(0, 25, 6, 11, 14);
        x.move(25, 31);
        due("king on row 5", x.pieceAt(31), 6);
        x.move(11, 5);
        due("king of 1 on row 0", x.pieceAt(5), 14);
    }

    private static void queenAttacksAtOnce() {
        sentence("A pawn that comes to row 5 (side 0) or row 0 (side 1) becomes a queen of its side.");
        SmallBoard x = begun(0, 0, 6, 35, 14, 25, 1);
        x.move(25, 31);
        due("check along row 5", x.check(), 1);
        due("the queen's squares", x.attackers(13, 0), 1);
        x.move(35, 29);
        due("moves as a queen", x.move(31, 13), 0);
        x.stop();
        due("stays a queen after the game", x.put(13, 0), 5);
    }

    private static void notIntoCheck() {
        sentence("A move is LEGAL if after it the side that made it is not in check.");
        SmallBoard x = begun(0, 1, 6, 35, 14, 5, 12);
        due("along the rook's row, away from it", x.move(1, 0), -3);
        due("along the rook's row, toward it", x.move(1, 2), -3);
        due("off the row", x.move(1, 7), 0);
        x = begun(0, 14, 6, 30, 14, 35, 11);
        due("along the diagonal, away from the bishop", x.move(14, 7), -3);
        due("along the diagonal, toward the bishop", x.move(14, 21), -3);
        due("off the diagonal", x.move(14, 13), 0);
        x = begun(0, 14, 6, 26, 14);
        for (int to = 19; to <= 21; to++) {
            due("next to the other king, " + to, x.move(14, to), -3);
        }
        due("five are left", x.moves(), 5);
        x = begun(0, 8, 6, 35, 14, 20, 9);
        due("where a pawn attacks", x.move(8, 13), -3);
        due("where a pawn attacks on its other side", x.move(8, 15), -3);
        due("ahead of a pawn", x.move(8, 14), 0);
    }

    private static void guardedPieces() {
        sentence("A move is LEGAL if after it the side that made it is not in check.");
        for (int guard : new int[] {9, 10, 11, 12, 13}) {
            // The rook on 7 is guarded from where the guard attacks it; the pawn on 24 always has a move.
            int from = guard == 9 ? 14 : guard == 10 ? 15 : guard == 11 ? 28 : 10;
            SmallBoard x = begun(0, 0, 6, 35, 14, 24, 1, 7, 12, from, guard);
            due("guarded by " + guard, x.move(0, 7), -3);
        }
        due("guarded by the king", begun(0, 0, 6, 14, 14, 24, 1, 7, 12).move(0, 7), -3);
        due("not guarded", begun(0, 0, 6, 35, 14, 24, 1, 7, 12).move(0, 7), 12);
    }

    private static void checkMustBeMet() {
        sentence("A move is LEGAL if after it the side that made it is not in check.");
        // The rook on 4 gives check to king 0.
        SmallBoard x = begun(0, 0, 6, 30, 14, 4, 12, 27, 4, 14, 2);
        due("in check", x.check(), 1);
        due("rook elsewhere", x.move(27, 28), -3);
        due("knight elsewhere", x.move(14, 22), -3);
        due("rook between", x.move(27, 3), 0);
        x.undo();
        due("knight between", x.move(14, 1), 0);
        x.undo();
        due("king along the row", x.move(0, 1), -3);
        due("king aside", x.move(0, 6), 0);
        x = begun(0, 0, 6, 35, 14, 4, 12, 28, 4);
        due("capturing it", x.move(28, 4), 12);
        // With two of them at once only the king can help.
        x = begun(0, 0, 6, 30, 14, 4, 12, 28, 11, 22, 4);
        due("capturing one of two", x.move(22, 4), -3);
        due("capturing the other", x.move(22, 28), -3);
        due("king aside of both", x.move(0, 6), 0);
    }

    private static void pinnedPieces() {
        sentence("A move is LEGAL if after it the side that made it is not in check.");
        SmallBoard x = begun(0, 14, 6, 35, 14, 20, 4, 32, 12);
        due("off the line", x.move(20, 21), -3);
        due("along it", x.move(20, 26), 0);
        x.undo();
        due("onto the rook", x.move(20, 32), 12);
        x = begun(0, 2, 6, 30, 14, 8, 1, 32, 12, 15, 11);
        due("a pawn may not capture off its line", x.move(8, 15), -3);
        due("a pawn moves along its line", x.move(8, 14), 0);
        x = begun(0, 12, 6, 35, 14, 13, 1, 17, 12);
        due("a pawn may not move off a row", x.move(13, 19), -3);
        x = begun(0, 12, 6, 35, 14, 13, 2, 17, 12);
        due("a knight never moves along its line", x.mobile(13), 0);
        // A pinned pawn that would become a queen: what it becomes helps nothing.
        x = begun(0, 24, 6, 5, 14, 25, 1, 29, 12);
        due("a pawn that would become a queen", x.move(25, 31), -3);
    }

    /** How many moves each kind, from pawn to queen, has on 14 between its king and an attacker along a line. */
    private static void pinnedOn14(String line, int king, int attacker, int kindOfAttacker, int... due) {
        for (int side = 0; side < 2; side++) {
            for (int kind = 1; kind <= 5; kind++) {
                SmallBoard x = begunBy(side, 33, 14, king, 6, 14, kind, attacker, kindOfAttacker);
                String what = "kind " + kind + " of side " + side + " pinned " + line;
                due(what, x.mobile(seenBy(side, 14)), due[kind - 1]);
                due(what + ": no check", x.check(), 0);
            }
        }
    }

    private static void pinnedOnEachLine() {
        sentence("A move is LEGAL if after it the side that made it is not in check.");
        for (int rook = 12; rook <= 13; rook++) {
            pinnedOn14("on its row", 12, 17, rook, 0, 0, 0, 4, 4);
            pinnedOn14("on its column", 2, 32, rook, 1, 0, 0, 4, 4);
        }
        for (int bishop = 11; bishop <= 13; bishop += 2) {
            pinnedOn14("on a diagonal", 0, 35, bishop, 0, 0, 4, 0, 4);
            pinnedOn14("on the other diagonal", 24, 4, bishop, 0, 0, 3, 0, 3);
        }
    }

    private static void numbers() {
        sentence("The NUMBER of a move is 64 * from + to.");
        SmallBoard x = begun(0, 0, 6, 35, 14);
        due("0 to 1", x.moveAt(0), 1);
        due("0 to 6", x.moveAt(1), 6);
        due("0 to 7", x.moveAt(2), 7);
        x = begun(1, 0, 6, 35, 14);
        due("35 to 28", x.moveAt(0), 64 * 35 + 28);
        due("35 to 29", x.moveAt(1), 64 * 35 + 29);
        due("35 to 34", x.moveAt(2), 64 * 35 + 34);
        due("best", x.best(1), 64 * 35 + 28);
    }

    public static void main(String[] args) {
        lastOfManyMovesAndUndos();
        lastOfManyGames();
        lastOfManyPuts();
        lastOfManyRefusals();
        longGamesTakenBack();
        squares();
        rowsAndColumns();
        sides();
        pieces();
        sixPieces();
        sixPiecesAfterCapture();
        sixPiecesAfterQueening();
        kingAttacks();
        knightAttacks();
        rookAttacks();
        bishopAttacks();
        queenAttacks();
        pawnAttacks();
        whatStandsThereDoesNotMatter();
        inCheck();
        pinnedPiecesGiveCheckToo();
        onlyItsOwnPieces();
        toAnotherSquare();
        notOntoItsOwn();
        captures();
        toWhatItAttacks();
        pawnMovesAslantOnlyToCapture();
        pawnMovesAhead();
        pawnIsStopped();
        pawnsSideBySide();
        becomesQueen();
        becomesQueenByCapture();
        becomesQueenNoSooner();
        onlyPawnsBecomeQueens();
        queenAttacksAtOnce();
        notIntoCheck();
        guardedPieces();
        checkMustBeMet();
        pinnedPieces();
        pinnedOnEachLine();
        numbers();
        end();
    }
}
