/** The boundary cases that the promises 1 to 20 name; each test quotes the sentence it stands for. */
public final class BoundaryTest extends Checks {
    // ---- Promise 1

    private static void newObject() {
        sentence("No piece on the board, no game.");
        boardIs("new", new SmallBoard());
        SmallBoard x = new SmallBoard();
        noGame("new", x);
        due("attackers of side 0", x.attackers(14, 0), 0);
        due("attackers of side 1", x.attackers(14, 1), 0);
        due("no king", x.begin(0), -3);
        due("clear", x.clear(), 0);
    }

    private static void noGame(String what, SmallBoard x) {
        due(what + ": stop", x.stop(), -1);
        due(what + ": move", x.move(0, 1), -1);
        due(what + ": undo", x.undo(), -1);
        due(what + ": result", x.result(), -1);
        due(what + ": turn", x.turn(), -1);
        due(what + ": check", x.check(), -1);
        due(what + ": moves", x.moves(), -1);
        due(what + ": moveAt", x.moveAt(0), -1);
        due(what + ": mobile", x.mobile(0), -1);
        due(what + ": count", x.count(0), -1);
        due(what + ": value", x.value(0), -5000);
        due(what + ": best", x.best(1), -1);
        due(what + ": mate", x.mate(1), -1);
    }

    private static void newObjectBesideAnother() {
        sentence("No piece on the board, no game.");
        SmallBoard first = begun(0, 0, 6, 35, 14, 14, 2);
        SmallBoard second = new SmallBoard();
        boardIs("beside another", second);
        due("turn beside another", second.turn(), -1);
        due("its own king", second.put(1, 14), 0);
        due("the first one's square", first.pieceAt(1), 0);
        due("the first one's game", first.turn(), 0);
    }

    // ---- Promise 2

    private static void putInPlace() {
        sentence("Puts a piece on a square in place of what is there (0 takes it away).");
        SmallBoard x = new SmallBoard();
        int before = 0;
        for (int i = 0; i < 25; i++) {
            int piece = i % 2 == 0 ? PIECES[i / 2 % 12] : PIECES[(i * 5 + 3) % 12];
            due("put(8, " + piece + ")", x.put(8, piece), before);
            due("pieceAt after put(8, " + piece + ")", x.pieceAt(8), piece);
            before = piece;
        }
        due("the same piece again", x.put(8, before), before);
        due("taken away", x.put(8, 0), before);
        due("none is there", x.pieceAt(8), 0);
        due("taken away from an empty square", x.put(8, 0), 0);
        due("none was left", x.clear(), 0);
    }

    private static void putOnNoSquare() {
        sentence("square is not 0 to 35: -1");
        SmallBoard x = new SmallBoard();
        for (int square : WRONG_SQUARES) {
            due("put(" + square + ", 6)", x.put(square, 6), -1);
            due("put(" + square + ", 0)", x.put(square, 0), -1);
        }
        due("square 0", x.put(0, 6), 0);
        due("square 35", x.put(35, 14), 0);
        boardIs("only the two", x, 0, 6, 35, 14);
    }

    private static void putNoPiece() {
        sentence("piece is none of 0 to 6 and 9 to 14: -2");
        SmallBoard x = with(14, 4);
        for (int piece = -20; piece <= 40; piece++) {
            boolean isOne = piece >= 0 && piece <= 6 || piece >= 9 && piece <= 14;
            if (!isOne) {
                due("put(14, " + piece + ")", x.put(14, piece), -2);
                due("put(15, " + piece + ")", x.put(15, piece), -2);
            }
        }
        for (int piece : WRONG_PIECES) {
            due("put(14, " + piece + ")", x.put(14, piece), -2);
        }
        boardIs("only the rook", x, 14, 4);
        for (int piece : PIECES) {
            due("put(20, " + piece + ")", x.put(20, piece) >= 0);
        }
        due("put(20, 0)", x.put(20, 0), 14);
    }

    private static void putInGame() {
        sentence("a game is going on: -3");
        SmallBoard x = game(0, 3, 0, 6, 35, 14);
        for (int piece : PIECES) {
            due("put(14, " + piece + ")", x.put(14, piece), -3);
            due("in place of the king: " + piece, x.put(0, piece == 1 || piece == 9 ? 6 : piece), -3);
        }
        due("0 on an empty square", x.put(14, 0), -3);
        due("0 on the king", x.put(0, 0), -3);
        boardIs("the two kings", x, 0, 6, 35, 14);
        for (int way = 1; way <= 5; way++) {
            x = over(way);
            due("in a game that is over by " + way, x.put(14, 2), -3);
            x.stop();
            due("after it", x.put(14, 2) >= 0);
        }
    }

    private static void putPawnOnEndRow() {
        sentence("a pawn on row 0 or row 5: -4");
        for (int pawn : new int[] {1, 9}) {
            SmallBoard x = new SmallBoard();
            for (int square = 0; square < 36; square++) {
                boolean end = square < 6 || square >= 30;
                due("put(" + square + ", " + pawn + ")", x.put(square, pawn), end ? -4 : 0);
                due("pieceAt(" + square + ")", x.pieceAt(square), end ? 0 : pawn);
                due("put(" + square + ", 0)", x.put(square, 0), end ? 0 : pawn);
            }
            due("in place of a king", with(3, 6).put(3, pawn), -4);
            x = with(33, 14);
            due("in place of a king on row 5", x.put(33, pawn), -4);
            due("the king is still there", x.pieceAt(33), 14);
        }
        for (int piece : PIECES) {
            if (piece != 1 && piece != 9) {
                due("another piece on row 0: " + piece, new SmallBoard().put(3, piece), 0);
                due("another piece on row 5: " + piece, new SmallBoard().put(33, piece), 0);
            }
        }
    }

    private static void putOnFullBoard() {
        sentence("piece is not 0, the square has none and the board has 6 pieces: -5");
        SmallBoard x = with(6, 1, 11, 1, 24, 9, 29, 9, 0, 6);
        due("the sixth", x.put(35, 14), 0);
        for (int piece : PIECES) {
            due("a seventh: " + piece, x.put(14, piece), -5);
        }
        due("0 on an empty square", x.put(14, 0), 0);
        due("in place of another", x.put(6, 5), 1);
        due("in place of another, of the other side", x.put(6, 12), 5);
        due("a seventh still not", x.put(14, 2), -5);
        due("one taken away", x.put(6, 0), 12);
        due("another elsewhere", x.put(14, 2), 0);
        due("a seventh not again", x.put(6, 1), -5);
        boardIs("six", x, 14, 2, 11, 1, 24, 9, 29, 9, 0, 6, 35, 14);
    }

    private static void putAnswers() {
        sentence("Else answers the piece that was there.");
        for (int piece : PIECES) {
            SmallBoard x = with(14, piece);
            due("0 in place of " + piece, x.put(14, 0), piece);
            due("then none", x.put(14, piece), 0);
            due("a queen in place of " + piece, x.put(14, 13), piece);
        }
    }

    private static void putOrder() {
        sentence("The tests of a call are made in the order in which they are named.");
        SmallBoard x = begun(0, 0, 6, 35, 14, 14, 2, 15, 2, 20, 10, 21, 10);
        due("square, piece, game", x.put(36, 7), -1);
        due("square, game", x.put(-1, 2), -1);
        due("piece, game", x.put(1, 8), -2);
        due("game, pawn, full", x.put(1, 1), -3);
        due("game, full", x.put(8, 2), -3);
        x.stop();
        due("square, piece", x.put(36, 15), -1);
        due("square, pawn", x.put(-6, 1), -1);
        due("square, full", x.put(36, 2), -1);
        due("piece, full", x.put(1, 8), -2);
        due("pawn, full", x.put(1, 1), -4);
        due("pawn of side 1, full", x.put(34, 9), -4);
        due("full", x.put(8, 1), -5);
    }

    // ---- Promise 3

    private static void clearAll() {
        sentence("Takes all pieces away.");
        SmallBoard x = with(0, 6, 35, 14, 14, 5, 6, 1, 29, 9, 5, 12);
        due("six", x.clear(), 6);
        boardIs("cleared", x);
        due("six fit again", x.put(1, 6), 0);
    }

    private static void clearInGame() {
        sentence("A game is going on: -1.");
        SmallBoard x = game(0, 3, 0, 6, 35, 14);
        due("clear", x.clear(), -1);
        boardIs("still there", x, 0, 6, 35, 14);
        for (int way = 1; way <= 5; way++) {
            x = over(way);
            due("over by " + way, x.clear(), -1);
            x.stop();
            due("stopped", x.clear() > 1);
        }
    }

    private static void clearAnswers() {
        sentence("Else answers how many there were.");
        for (int pieces = 0; pieces <= 6; pieces++) {
            SmallBoard x = new SmallBoard();
            for (int i = 0; i < pieces; i++) {
                x.put(7 * i, PIECES[2 * i + 1]);
            }
            due(pieces + " pieces", x.clear(), pieces);
            due("cleared again", x.clear(), 0);
        }
        SmallBoard x = begun(0, 0, 6, 35, 14, 7, 10);
        x.move(0, 7);
        x.stop();
        due("after a capture", x.clear(), 2);
    }

    // ---- Promise 4

    private static void beginWithBoard() {
        sentence("Begins a game with the board as it is.");
        for (int side = 0; side < 2; side++) {
            SmallBoard x = begun(side, 0, 6, 35, 14, 14, 1, 21, 9);
            boardIs("begun", x, 0, 6, 35, 14, 14, 1, 21, 9);
            due("turn", x.turn(), side);
            due("result", x.result(), 0);
            due("no move is made", x.undo(), -2);
            due("stop", x.stop(), 0);
        }
    }

    private static void beginInGame() {
        sentence("A game is going on: -1");
        SmallBoard x = game(1, 3, 0, 6, 35, 14);
        for (int side = 0; side < 2; side++) {
            due("begin(" + side + ")", x.begin(side), -1);
        }
        due("turn stays", x.turn(), 1);
        for (int way = 1; way <= 5; way++) {
            x = over(way);
            due("over by " + way, x.begin(0), -1);
            due("the game is still over", x.result(), way);
            due("its moves are still there", x.stop(), MADE_IN_OVER[way]);
        }
    }

    private static void beginWithNoSide() {
        sentence("side is not 0 or 1: -2");
        SmallBoard x = with(0, 6, 35, 14);
        for (int side : WRONG_SIDES) {
            due("begin(" + side + ")", x.begin(side), -2);
        }
        due("no game", x.turn(), -1);
        due("begin(0)", x.begin(0), 3);
        x.stop();
        due("begin(1)", x.begin(1), 3);
    }

    private static void beginWithoutKings() {
        sentence("there is not just one king of each side: -3");
        for (int zeros = 0; zeros <= 3; zeros++) {
            for (int ones = 0; ones <= 3; ones++) {
                SmallBoard x = new SmallBoard();
                for (int i = 0; i < zeros; i++) {
                    x.put(2 * i, 6);
                }
                for (int i = 0; i < ones; i++) {
                    x.put(30 + 2 * i, 14);
                }
                int want = zeros == 1 && ones == 1 ? 3 : -3;
                due(zeros + " and " + ones + " kings, begin(0)", x.begin(0), want);
                due(zeros + " and " + ones + " kings, begin(1)", x.begin(1), want == 3 ? -1 : -3);
            }
        }
        due("other pieces alone", with(14, 5, 21, 13).begin(0), -3);
    }

    private static void beginWithOtherSideInCheck() {
        sentence("the side not to move is in check: -4");
        for (int kind = 1; kind <= 5; kind++) {
            // Side 1's king on 14 is attacked by the piece of side 0, and the same with the sides changed.
            int from = kind == 1 ? 7 : kind == 2 ? 3 : kind == 3 ? 28 : kind == 4 ? 2 : 35;
            int mirrored = kind == 1 ? 21 : from;
            due("kind " + kind, with(14, 14, 30, 6, from, kind).begin(0), -4);
            due("kind " + kind + ", to move itself", with(14, 14, 30, 6, from, kind).begin(1) > 0);
            due("kind " + kind + " of side 1", with(14, 6, 30, 14, mirrored, kind + 8).begin(1), -4);
            due("kind " + kind + " of side 1, to move itself", with(14, 6, 30, 14, mirrored, kind + 8).begin(0) > 0);
        }
        due("kings side by side", with(14, 6, 15, 14).begin(0), -4);
        due("kings side by side, side 1", with(14, 6, 15, 14).begin(1), -4);
        due("kings corner to corner", with(14, 6, 21, 14).begin(0), -4);
        due("kings over the edge", with(11, 6, 12, 14).begin(0), 5);
        due("both in check", with(0, 6, 35, 14, 30, 12, 5, 4).begin(0), -4);
        due("both in check, side 1", with(0, 6, 35, 14, 30, 12, 5, 4).begin(1), -4);
    }

    private static void beginAnswers() {
        sentence("Else answers how many legal moves the side to move has.");
        due("mated", with(0, 14, 7, 5, 14, 6).begin(1), 0);
        due("no legal move", with(0, 14, 8, 5, 14, 6).begin(1), 0);
        due("one", with(1, 14, 13, 6, 14, 4).begin(1), 1);
        due("king in a corner", with(0, 6, 35, 14).begin(0), 3);
        due("king at an edge", with(2, 6, 35, 14).begin(0), 5);
        due("king in the open", with(14, 6, 35, 14).begin(0), 8);
        due("king and queen", with(0, 6, 34, 14, 15, 5).begin(0), 3 + 19);
        SmallBoard x = with(0, 6, 34, 14, 15, 5);
        due("side 1 instead", x.begin(1), 2);
        x = begun(0, 0, 6, 35, 14);
        x.move(0, 7);
        x.stop();
        due("after a game", x.begin(0), 8);
    }

    private static void beginOrder() {
        sentence("The tests of a call are made in the order in which they are named.");
        SmallBoard x = game(0, 3, 0, 6, 35, 14);
        due("game, side", x.begin(2), -1);
        due("side, kings", new SmallBoard().begin(2), -2);
        due("side, check", with(0, 6, 7, 14).begin(-1), -2);
        due("kings, check", with(0, 6, 7, 14, 35, 14).begin(0), -3);
        due("kings, check, side 1", with(0, 6, 7, 14, 35, 6).begin(1), -3);
    }

    // ---- Promise 5

    private static void stopWhenOver() {
        sentence("Ends the game (also one that is over); the board stays as it is.");
        SmallBoard x = game(0, 3, 0, 6, 35, 14);
        x.move(0, 7);
        due("stop", x.stop(), 1);
        boardIs("stopped", x, 7, 6, 35, 14);
        noGame("stopped", x);
        for (int way = 1; way <= 5; way++) {
            x = over(way);
            int[] board = new int[36];
            for (int square = 0; square < 36; square++) {
                board[square] = x.pieceAt(square);
            }
            due("over by " + way, x.stop(), MADE_IN_OVER[way]);
            noGame("over by " + way, x);
            for (int square = 0; square < 36; square++) {
                due("over by " + way + ", pieceAt(" + square + ")", x.pieceAt(square), board[square]);
            }
        }
    }

    private static void stopWithoutGame() {
        sentence("No game is going on: -1.");
        SmallBoard x = new SmallBoard();
        due("new", x.stop(), -1);
        due("again", x.stop(), -1);
        x.begin(0);
        due("after a refused begin", x.stop(), -1);
        x = game(0, 3, 0, 6, 35, 14);
        due("the game", x.stop(), 0);
        due("after the game", x.stop(), -1);
    }

    private static void stopAnswers() {
        sentence("Else answers how many moves were made (those taken back not counted).");
        for (int moves = 0; moves <= 20; moves++) {
            due(moves + " moves", kingsAfter(moves).stop(), moves);
        }
        due("60 moves", pawnsAfter(60).stop(), 60);
        SmallBoard x = kingsAfter(10);
        for (int left = 9; left >= 4; left--) {
            x.undo();
        }
        due("ten made, six taken back", x.stop(), 4);
        x = kingsAfter(3);
        x.undo();
        x.undo();
        x.undo();
        due("all taken back", x.stop(), 0);
        x.begin(1);
        due("a new game has none", x.stop(), 0);
    }

    // ---- Promise 6

    private static void moveMoves() {
        sentence("Makes a move of the side to move.");
        SmallBoard x = begun(0, 0, 6, 35, 14, 14, 2, 21, 10);
        due("knight of side 0", x.move(14, 25), 0);
        boardIs("after one move", x, 0, 6, 35, 14, 25, 2, 21, 10);
        due("turn of side 1", x.turn(), 1);
        due("knight of side 1", x.move(21, 10), 0);
        boardIs("after two moves", x, 0, 6, 35, 14, 25, 2, 10, 10);
        due("turn of side 0", x.turn(), 0);
        due("side 1's king", x.move(35, 34), -3);
        boardIs("after a refused move", x, 0, 6, 35, 14, 25, 2, 10, 10);
        due("made", x.stop(), 2);
    }

    private static void moveWithoutGame() {
        sentence("No game is going on: -1; it is over: -2; there is no such legal move: -3.");
        SmallBoard x = with(0, 6, 35, 14);
        due("never begun", x.move(0, 1), -1);
        x.begin(0);
        x.stop();
        due("stopped", x.move(0, 1), -1);
        due("stopped, no such square", x.move(-1, 36), -1);
        boardIs("nothing moved", x, 0, 6, 35, 14);
        for (int way = 1; way <= 5; way++) {
            x = over(way);
            x.stop();
            due("stopped when over by " + way, x.move(0, 1), -1);
        }
    }

    private static void moveWhenOver() {
        sentence("it is over: -2");
        for (int way = 1; way <= 5; way++) {
            SmallBoard x = over(way);
            int number = x.moveAt(0);
            int from = way < 3 ? 0 : number / 64;
            int to = way < 3 ? 1 : number % 64;
            due("over by " + way, x.move(from, to), -2);
            due("over by " + way + ", no such move", x.move(14, 14), -2);
            due("still over by " + way, x.result(), way);
            x.undo();
            due("not over, no such move", x.move(14, 14), -3);
        }
        due("begun over by 1", mated().move(0, 1), -2);
        due("begun over by 2", stalemated().move(0, 1), -2);
    }

    private static void moveWithNoSquare() {
        sentence("there is no such legal move: -3");
        SmallBoard x = game(0, 3, 0, 6, 35, 14);
        for (int square : WRONG_SQUARES) {
            for (int other : new int[] {0, 1, 7, 35}) {
                due("move(" + square + ", " + other + ")", x.move(square, other), -3);
                due("move(" + other + ", " + square + ")", x.move(other, square), -3);
            }
            for (int other : WRONG_SQUARES) {
                due("move(" + square + ", " + other + ")", x.move(square, other), -3);
            }
        }
        // Numbers 64 * from + to that come to 1 and 7, which are legal moves, by other squares.
        due("move(-1, 65)", x.move(-1, 65), -3);
        due("move(1, -63)", x.move(1, -63), -3);
        due("move(1 << 26, 1)", x.move(1 << 26, 1), -3);
        due("move(-(1 << 26), 7)", x.move(-(1 << 26), 7), -3);
        boardIs("nothing moved", x, 0, 6, 35, 14);
        due("turn stays", x.turn(), 0);
    }

    private static void moveNoLegalOne() {
        sentence("there is no such legal move: -3");
        // Of all pairs of squares; rook 20 is pinned to its column, and pawn 8 stands before its king.
        int[] legal = {13, 64 * 14 + 7, 64 * 14 + 9, 64 * 14 + 13, 64 * 14 + 15, 64 * 14 + 19, 64 * 14 + 21,
            64 * 20 + 26, 64 * 20 + 32};
        for (int from = 0; from < 36; from++) {
            SmallBoard x = game(0, legal.length, 14, 6, 35, 14, 20, 4, 32, 12, 0, 2, 8, 1);
            for (int to = 0; to < 36; to++) {
                boolean isLegal = false;
                for (int number : legal) {
                    isLegal = isLegal || number == 64 * from + to;
                }
                int captured = to == 32 ? 12 : 0;
                due("move(" + from + ", " + to + ")", x.move(from, to), isLegal ? captured : -3);
                if (isLegal) {
                    x.undo();
                }
            }
        }
    }

    private static void moveAnswers() {
        sentence("Else answers the captured piece, 0 if there is none.");
        for (int kind = 1; kind <= 5; kind++) {
            due("side 0 captures " + kind, begun(0, 0, 6, 35, 14, 26, 4, 8, kind + 8).move(26, 8), kind + 8);
            due("side 1 captures " + kind, begun(1, 0, 6, 35, 14, 27, 12, 9, kind).move(27, 9), kind);
        }
        due("none", begun(0, 0, 6, 35, 14, 26, 4).move(26, 8), 0);
        due("none, by a pawn that becomes a queen", begun(0, 0, 6, 35, 14, 24, 1).move(24, 30), 0);
        due("by a pawn that becomes a queen", begun(0, 0, 6, 35, 14, 24, 1, 31, 11).move(24, 31), 11);
    }

    // ---- Promise 7

    private static void undoWithoutGame() {
        sentence("No game is going on: -1; no move is left to take back: -2.");
        due("new", new SmallBoard().undo(), -1);
        SmallBoard x = game(0, 3, 0, 6, 35, 14);
        due("just begun", x.undo(), -2);
        due("again", x.undo(), -2);
        x.move(0, 1);
        due("one is left", x.undo(), 0);
        due("none is left", x.undo(), -2);
        x.move(0, 7);
        x.stop();
        due("stopped", x.undo(), -1);
        boardIs("stopped", x, 7, 6, 35, 14);
        due("begin", x.begin(1), 3);
        due("the earlier game's moves can't be taken back", x.undo(), -2);
        boardIs("begun again", x, 7, 6, 35, 14);
        due("begun and over", mated().undo(), -2);
    }

    private static void undoWhenOver() {
        sentence("Takes the latest move back (also when the game is over; all is as before it was made).");
        for (int way = 1; way <= 5; way++) {
            SmallBoard x = over(way);
            int turn = x.turn();
            due("over by " + way, x.undo(), MADE_IN_OVER[way] - 1);
            due("not over any more", x.result(), 0);
            due("the side that made it is to move", x.turn(), 1 - turn);
            due("it can move", x.move(x.moveAt(0) / 64, x.moveAt(0) % 64) >= 0);
        }
    }

    private static void undoGivesBack() {
        sentence("Takes the latest move back (also when the game is over; all is as before it was made).");
        SmallBoard x = begun(0, 0, 6, 35, 14, 24, 1, 31, 11, 8, 4, 11, 10);
        due("capture", x.move(8, 11), 10);
        x.undo();
        boardIs("the captured piece is back", x, 0, 6, 35, 14, 24, 1, 31, 11, 8, 4, 11, 10);
        due("queen", x.move(24, 30), 0);
        x.undo();
        boardIs("the pawn is back", x, 0, 6, 35, 14, 24, 1, 31, 11, 8, 4, 11, 10);
        due("capture and queen", x.move(24, 31), 11);
        x.undo();
        boardIs("the pawn and the captured piece are back", x, 0, 6, 35, 14, 24, 1, 31, 11, 8, 4, 11, 10);
        due("turn", x.turn(), 0);
        x = begun(1, 5, 6, 35, 14, 7, 9);
        due("queen of side 1", x.move(7, 1), 0);
        due("check", x.check(), 1);
        x.undo();
        boardIs("side 1's pawn is back", x, 5, 6, 35, 14, 7, 9);
        due("turn of side 1", x.turn(), 1);
    }

    private static void undoInSecondGame() {
        sentence("Takes the latest move back (also when the game is over; all is as before it was made).");
        SmallBoard x = cornered();
        play("first game", x, 16, 10, 0, 1, 10, 11);
        due("stop", x.stop(), 3);
        due("clear", x.clear(), 3);
        x.put(5, 6);
        x.put(30, 14);
        x.put(20, 3);
        due("second game", x.begin(1) >= 0);
        play("second game", x, 30, 24, 5, 4, 24, 18);
        due("undo", x.undo(), 2);
        boardIs("before the third move", x, 4, 6, 24, 14, 20, 3);
        due("undo", x.undo(), 1);
        due("undo", x.undo(), 0);
        boardIs("the beginning of the second game", x, 5, 6, 30, 14, 20, 3);
        due("turn", x.turn(), 1);
        due("none is left", x.undo(), -2);
    }

    private static void undoAnswers() {
        sentence("Else answers how many moves are left.");
        SmallBoard x = pawnsAfter(60);
        for (int left = 59; left >= 0; left--) {
            due("undo to " + left, x.undo(), left);
        }
        boardIs("all taken back", x, 0, 6, 35, 14, 12, 1, 14, 1, 17, 1);
        due("none is left", x.undo(), -2);
    }

    // ---- Promise 8

    private static void result() {
        sentence("How the game is over, 1 to 5; 0 if it is not over; -1 if no game is going on.");
        due("new", new SmallBoard().result(), -1);
        due("set up", with(0, 14, 7, 5, 14, 6).result(), -1);
        due("begun", game(0, 3, 0, 6, 35, 14).result(), 0);
        for (int way = 1; way <= 5; way++) {
            SmallBoard x = over(way);
            due("over", x.result(), way);
            due("asked again", x.result(), way);
            x.stop();
            due("stopped", x.result(), -1);
        }
        due("begun over by 1", mated().result(), 1);
        due("begun over by 2", stalemated().result(), 2);
    }

    private static void overGoesOn() {
        sentence("(A game that is over goes on in the sense of the other calls until stop.)");
        for (int way = 1; way <= 5; way++) {
            SmallBoard x = over(way);
            String what = "over by " + way + ": ";
            due(what + "put", x.put(14, 0), -3);
            due(what + "clear", x.clear(), -1);
            due(what + "begin", x.begin(0), -1);
            due(what + "turn", x.turn(), way < 3 ? 1 : 0);
            due(what + "check", x.check(), way == 1 ? 1 : 0);
            due(what + "moves", x.moves() > 0 == way > 2);
            due(what + "moveAt", x.moveAt(0) >= 0 == way > 2);
            due(what + "moveAt, none", x.moveAt(100), -2);
            due(what + "mobile", x.mobile(36), 0);
            due(what + "count", x.count(0), 1);
            due(what + "value", x.value(0) > -1000);
            due(what + "best", x.best(1) >= 0 == way > 2);
            due(what + "best of none", x.best(1) == -3 == way < 3);
            due(what + "mate", x.mate(1), 0);
            due(what + "undo", x.undo(), MADE_IN_OVER[way] - 1);
            due(what + "stop", x.stop(), MADE_IN_OVER[way] - 1);
            noGame(what + "stopped", x);
        }
    }

    // ---- Promises 9 to 12

    private static void pieceAt() {
        sentence("The piece on a square; -1 if there is no such square.");
        SmallBoard x = with(0, 6, 35, 14, 5, 2, 30, 13);
        boardIs("set up", x, 0, 6, 35, 14, 5, 2, 30, 13);
        for (int square : WRONG_SQUARES) {
            due("pieceAt(" + square + ")", x.pieceAt(square), -1);
        }
        x = game(0, 3, 0, 6, 35, 14);
        for (int square : WRONG_SQUARES) {
            due("pieceAt(" + square + ") in a game", x.pieceAt(square), -1);
        }
    }

    private static void turn() {
        sentence("The side to move; -1 if no game is going on.");
        SmallBoard x = with(0, 6, 35, 14);
        due("set up", x.turn(), -1);
        for (int side = 0; side < 2; side++) {
            x.begin(side);
            due("begin(" + side + ")", x.turn(), side);
            x.stop();
            due("stop", x.turn(), -1);
        }
        x.begin(2);
        due("refused begin", x.turn(), -1);
        due("over by 1", mated().turn(), 1);
    }

    private static void check() {
        sentence("1 if the side to move is in check, else 0; -1 if no game is going on.");
        SmallBoard x = with(0, 6, 35, 14, 5, 12);
        due("set up with a check", x.check(), -1);
        x.begin(0);
        due("in check", x.check(), 1);
        x.move(0, 6);
        due("out of it, side 1", x.check(), 0);
        x.move(5, 11);
        due("in check again", x.check(), 1);
        x.stop();
        due("stopped", x.check(), -1);
        due("over by 1", mated().check(), 1);
        due("over by 2", stalemated().check(), 0);
        // The mover gives check; that is told of the side to move then.
        x = begun(1, 0, 6, 35, 14, 11, 12);
        due("not in check", x.check(), 0);
        x.move(11, 5);
        due("side 0 is", x.check(), 1);
    }

    private static void attackersOfNothing() {
        sentence("-1 if there is no such square, or side is not 0 or 1. (Also without a game.)");
        SmallBoard x = with(0, 6, 35, 14);
        for (int begun = 0; begun < 2; begun++) {
            for (int square : WRONG_SQUARES) {
                due("attackers(" + square + ", 0)", x.attackers(square, 0), -1);
                due("attackers(" + square + ", 1)", x.attackers(square, 1), -1);
                due("attackers(" + square + ", 2)", x.attackers(square, 2), -1);
            }
            for (int side : WRONG_SIDES) {
                due("attackers(0, " + side + ")", x.attackers(0, side), -1);
                due("attackers(35, " + side + ")", x.attackers(35, side), -1);
            }
            due("attackers(1, 0)", x.attackers(1, 0), 1);
            due("attackers(34, 1)", x.attackers(34, 1), 1);
            due("attackers(34, 0)", x.attackers(34, 0), 0);
            x.begin(0);
        }
        x.stop();
        due("attackers(7, 0) after the game", x.attackers(7, 0), 1);
    }

    private static void attackersCounted() {
        sentence("How many pieces of a side attack a square");
        int[] around14 = {1, 3, 6, 10, 18, 22};
        SmallBoard x = new SmallBoard();
        for (int i = 0; i < 6; i++) {
            x.put(around14[i], 2);
            due(i + 1 + " knights", x.attackers(14, 0), i + 1);
            due("of the other side", x.attackers(14, 1), 0);
        }
        x = with(2, 4, 26, 12, 13, 6, 15, 14, 7, 3, 21, 13);
        due("side 0: rook, king, bishop", x.attackers(14, 0), 3);
        due("side 1: rook, king, queen", x.attackers(14, 1), 3);
        // Of two rooks in a line only the nearer one attacks.
        x = with(2, 4, 8, 4);
        due("the farther rook", x.attackers(14, 0), 1);
        due("it guards the nearer", x.attackers(8, 0), 1);
        for (int side = 0; side < 2; side++) {
            // The knight on 2 stands between its king and a rook, and has no legal move.
            x = begunBy(side, 0, 6, 2, 2, 5, 12, 35, 14);
            due("the pinned knight can't move", x.mobile(seenBy(side, 2)), 0);
            due("and yet it attacks", x.attackers(seenBy(side, 13), side), 1);
            // The king on 0 is in check, which the knight on 33 can't end.
            x = begunBy(side, 0, 6, 33, 2, 5, 12, 35, 14);
            due("in check", x.check(), 1);
            due("the knight can't help", x.mobile(seenBy(side, 33)), 0);
            due("and yet it attacks", x.attackers(seenBy(side, 22), side), 1);
        }
    }

    // ---- Promises 13 to 15

    private static void moves() {
        sentence("How many legal moves the side to move has.");
        due("no game", with(0, 6, 35, 14).moves(), -1);
        due("mated", mated().moves(), 0);
        due("no legal move", stalemated().moves(), 0);
        due("one", game(1, 1, 1, 14, 13, 6, 14, 4).moves(), 1);
        SmallBoard x = game(0, 2, 0, 6, 35, 14, 14, 9);
        due("side 0's", x.moves(), 2);
        x.move(0, 6);
        due("side 1's", x.moves(), 4);
        x.undo();
        due("side 0's again", x.moves(), 2);
        // Each of the ways in which a pawn becomes a queen is one move.
        due("pawn to row 5", game(0, 6, 0, 6, 18, 14, 27, 1, 32, 10, 34, 10).mobile(27), 3);
    }

    private static void movesAreMany() {
        sentence("How many legal moves the side to move has.");
        SmallBoard x = game(0, 56, 0, 6, 31, 14, 2, 4, 12, 5, 15, 5, 28, 5);
        due("moves", x.moves(), 56);
        int last = -1;
        for (int k = 0; k < 56; k++) {
            int number = x.moveAt(k);
            due("moveAt(" + k + ") is above the one before", number > last);
            last = number;
        }
        due("after the last", x.moveAt(56), -2);
        int mobile = 0;
        for (int square = 0; square < 36; square++) {
            mobile += x.mobile(square);
        }
        due("mobile of all squares", mobile, 56);
        due("count(1)", x.count(1), 56);
        due("count(3)", x.count(3), 265);
    }

    private static void moveAtEnds() {
        sentence("The number of the k-th legal move (0 for the first) in rising order of their numbers; "
            + "-2 if there is none.");
        SmallBoard x = game(0, 7, 0, 6, 35, 14, 2, 2);
        int[] numbers = {1, 6, 7, 64 * 2 + 6, 64 * 2 + 10, 64 * 2 + 13, 64 * 2 + 15};
        for (int k = 0; k < 7; k++) {
            due("moveAt(" + k + ")", x.moveAt(k), numbers[k]);
        }
        for (int k : new int[] {-1, -2, MIN, MIN + 1, 7, 8, 36, 64, 1 << 26, MAX}) {
            due("moveAt(" + k + ")", x.moveAt(k), -2);
        }
        x = game(1, 3, 0, 6, 35, 14, 2, 2);
        due("the last of all", x.moveAt(2), 64 * 35 + 34);
        due("after the last of all", x.moveAt(3), -2);
        for (int k : new int[] {-1, 0, 1, MAX, MIN}) {
            due("mated, moveAt(" + k + ")", mated().moveAt(k), -2);
            due("no legal move, moveAt(" + k + ")", stalemated().moveAt(k), -2);
            due("no game, moveAt(" + k + ")", with(0, 6, 35, 14).moveAt(k), -1);
        }
    }

    private static void mobileOfNothing() {
        sentence("How many legal moves the piece on a square has; 0 if there is no such square, "
            + "or no piece of the side to move on it.");
        SmallBoard x = begun(0, 0, 6, 35, 14, 14, 4, 21, 12);
        for (int square : WRONG_SQUARES) {
            due("mobile(" + square + ")", x.mobile(square), 0);
        }
        due("none there", x.mobile(1), 0);
        due("other side's rook", x.mobile(21), 0);
        due("other side's king", x.mobile(35), 0);
        due("king", x.mobile(0), 3);
        due("rook", x.mobile(14), 10);
        x.move(0, 1);
        due("king of side 1", x.mobile(35), 3);
        due("rook of side 1", x.mobile(21), 10);
        due("rook of side 0, not its turn", x.mobile(14), 0);
        due("pinned", begun(0, 12, 6, 35, 14, 13, 2, 17, 12).mobile(13), 0);
        due("shut in", begun(0, 14, 6, 35, 14, 0, 3, 7, 1).mobile(0), 0);
        due("mated", mated().mobile(0), 0);
        due("no game", with(0, 6, 35, 14).mobile(0), -1);
    }

    // ---- Promises 16 to 19

    private static void countDepths() {
        sentence("depth is not 0 to 3: -2. (For 0: 1.)");
        SmallBoard x = game(0, 3, 0, 6, 35, 14);
        for (int depth : new int[] {-1, 4, 5, -2, 1 << 26, MIN, MIN + 1, MAX}) {
            due("count(" + depth + ")", x.count(depth), -2);
        }
        due("count(0)", x.count(0), 1);
        due("count(1)", x.count(1), 3);
        due("count(2)", x.count(2), 9);
        due("count(3)", x.count(3), 54);
        due("mated, count(0)", mated().count(0), 1);
        due("no legal move, count(0)", stalemated().count(0), 1);
        for (int depth = 1; depth <= 3; depth++) {
            due("mated, count(" + depth + ")", mated().count(depth), 0);
            due("no legal move, count(" + depth + ")", stalemated().count(depth), 0);
        }
        due("mated, count(4)", mated().count(4), -2);
    }

    private static void countRows() {
        sentence("How many different rows of 'depth' legal moves, the sides moving by turns, can be made from here");
        // A row that a mate cuts short is none: king 1 must go to 0, and of the rook's moves one mates.
        SmallBoard x = game(1, 1, 1, 14, 13, 6, 14, 4);
        int sum = 0;
        x.move(1, 0);
        int legal = x.moves();
        for (int k = 0; k < legal; k++) {
            int number = x.moveAt(k);
            x.move(number / 64, number % 64);
            sum += x.moves();
            x.undo();
        }
        due("count(2) is the sum of moves", x.count(2), sum);
        x.undo();
        due("count(2)", x.count(2), legal);
        due("count(3)", x.count(3), sum);
        // Rows that lead to the same position by other moves are different rows.
        x = game(0, 3, 0, 6, 35, 14);
        due("count(3)", x.count(3), 3 * (5 + 5 + 8));
    }

    private static void longestWalks() {
        sentence("There are at most 6 pieces on the board.");
        SmallBoard x = game(0, 52, 3, 5, 7, 6, 14, 5, 22, 5, 27, 13, 31, 14);
        due("count(2)", x.count(2), 699);
        due("count(3)", x.count(3), 24432);
        due("value(3)", x.value(3), 27);
        due("best(3)", x.best(3), 64 * 3 + 27);
        due("mate(2)", x.mate(2), 1);
        x = game(0, 44, 3, 5, 10, 5, 11, 6, 23, 5, 25, 13, 31, 14);
        due("count(2)", x.count(2), 604);
        due("count(3)", x.count(3), 21304);
        due("value(2)", x.value(2), 18);
        due("value(3)", x.value(3), 27);
        due("best(3)", x.best(3), 64 * 3 + 21);
        due("mate(2)", x.mate(2), 0);
        x = game(0, 35, 15, 5, 24, 5, 25, 5, 26, 13, 30, 6, 35, 14);
        due("mate(1)", x.mate(1), 0);
        due("mate(2) found late", x.mate(2), 1);
    }

    private static void valueDepths() {
        sentence("The value with a depth; depth is not 0 to 3: -4000.");
        SmallBoard x = game(0, 3, 0, 6, 35, 14);
        for (int depth : new int[] {-1, 4, 5, -2, 1 << 26, MIN, MIN + 1, MAX}) {
            due("value(" + depth + ")", x.value(depth), -4000);
            due("mated, value(" + depth + ")", mated().value(depth), -4000);
            due("no game, value(" + depth + ")", with(0, 6, 35, 14).value(depth), -5000);
        }
        for (int depth = 0; depth <= 3; depth++) {
            due("value(" + depth + ")", x.value(depth), 0);
        }
    }

    private static void bestOfEquals() {
        sentence("The least number of a legal move after which the position has the least value with depth - 1 "
            + "(the value for the other side, which is to move then).");
        for (int depth = 1; depth <= 3; depth++) {
            due("all are equal, depth " + depth, game(0, 3, 0, 6, 35, 14).best(depth), 1);
            due("all are equal for side 1, depth " + depth, game(1, 3, 0, 6, 35, 14).best(depth), 64 * 35 + 28);
        }
        SmallBoard x = cornered();
        due("depth 1 sees no mate", x.best(1), 64 * 13 + 8);
        due("depth 2 sees it", x.best(2), 64 * 16 + 4);
        due("depth 3 sees it", x.best(3), 64 * 16 + 4);
        // Of two captures the greater; of two ways of the same the lesser number.
        due("the queen, not the rook", begun(0, 0, 6, 33, 14, 14, 4, 17, 12, 26, 13).best(1), 64 * 14 + 26);
        due("two rooks can take", begun(0, 0, 6, 35, 14, 13, 4, 27, 4, 15, 10).best(1), 64 * 13 + 15);
        due("side 1's rooks can take", begun(1, 0, 6, 35, 14, 22, 12, 8, 12, 20, 2).best(1), 64 * 8 + 20);
        due("the only move", game(1, 1, 1, 14, 13, 6, 14, 4).best(3), 64);
        for (int depth = 1; depth <= 3; depth++) {
            // Rook 1 and rook 5 face each other: to take (69) or to go off the row, from 71 on, is as good.
            due("rooks, depth " + depth, begun(0, 1, 4, 5, 12, 10, 14, 12, 6).best(depth), 69);
        }
    }

    private static void bestDepths() {
        sentence("depth is not 1 to 3: -2; there is no legal move: -3.");
        SmallBoard x = game(0, 3, 0, 6, 35, 14);
        for (int depth : new int[] {-1, 0, 4, 5, -2, 1 << 26, MIN, MIN + 1, MAX}) {
            due("best(" + depth + ")", x.best(depth), -2);
            due("mated, best(" + depth + ")", mated().best(depth), -2);
            due("no legal move, best(" + depth + ")", stalemated().best(depth), -2);
        }
        for (int depth = 1; depth <= 3; depth++) {
            due("mated, best(" + depth + ")", mated().best(depth), -3);
            due("no legal move, best(" + depth + ")", stalemated().best(depth), -3);
            SmallBoard y = cornered();
            due("before the mate, best(" + depth + ")", y.best(depth) > 0);
            y.move(16, 4);
            due("after it, best(" + depth + ")", y.best(depth), -3);
        }
    }

    private static void mateNumbers() {
        sentence("n is not 1 or 2: -2.");
        SmallBoard x = cornered();
        for (int n : new int[] {-1, 0, 3, 4, -2, 1 << 26, MIN, MIN + 1, MAX}) {
            due("mate(" + n + ")", x.mate(n), -2);
            due("mated, mate(" + n + ")", mated().mate(n), -2);
        }
        due("mate(1)", x.mate(1), 1);
        due("mate(2)", x.mate(2), 1);
    }

    private static void mateForced() {
        sentence("1 if the side to move can force, whatever the other side answers, that after at most n of its own "
            + "moves the other side is in check and has no legal move; else 0.");
        due("at once", cornered().mate(1), 1);
        due("at once counts for two", cornered().mate(2), 1);
        matesAre("two rooks", game(0, 22, 32, 14, 18, 4, 13, 4, 0, 6), 0, 1);
        matesAre("a first move without check", begun(1, 17, 14, 20, 12, 33, 6), 0, 1);
        matesAre("by a pawn that becomes a queen", begun(0, 3, 12, 10, 12, 11, 14, 14, 5, 24, 6, 29, 1), 1, 1);
        matesAre("kings alone", game(0, 3, 0, 6, 35, 14), 0, 0);
        matesAre("mated itself", mated(), 0, 0);
        matesAre("without a move itself", stalemated(), 0, 0);
        matesAre("to be mated itself", game(1, 1, 1, 14, 13, 6, 14, 4), 0, 0);
        matesAre("all answers but one allow it", begun(0, 5, 10, 14, 6, 15, 5, 31, 14), 0, 0);
    }

    private static void mateOutOfCheck() {
        sentence("1 if the side to move can force, whatever the other side answers, that after at most n of its own "
            + "moves the other side is in check and has no legal move; else 0.");
        for (int side = 0; side < 2; side++) {
            SmallBoard x = begunBy(side, 0, 14, 3, 12, 5, 6, 9, 4, 10, 5);
            due("in check", x.check(), 1);
            matesAre("taking the rook that gives check", x, 1, 1);
            x = begunBy(side, 0, 14, 19, 4, 21, 13, 26, 6, 33, 4);
            due("in check", x.check(), 1);
            matesAre("a check to be met first", x, 0, 1);
        }
    }

    private static void matesAre(String what, SmallBoard x, int inOne, int inTwo) {
        due(what + ", mate(1)", x.mate(1), inOne);
        due(what + ", mate(2)", x.mate(2), inTwo);
    }

    private static void noMoveWithoutCheckIsNoMate() {
        sentence("the other side is in check and has no legal move");
        due("the queen can leave the king no move", begun(0, 5, 14, 8, 6, 31, 5).mate(1), 0);
        due("the pawn can leave the king no move", begun(0, 30, 14, 19, 6, 18, 1).mate(1), 0);
        due("so in two, with a pawn", begun(0, 6, 14, 24, 6, 25, 1).mate(2), 0);
        due("so in two, with a queen", begun(0, 1, 6, 18, 14, 33, 5).mate(2), 0);
        // An answer can leave the side that wants to mate without a move; then nothing is forced.
        due("an answer that takes the rook", begun(0, 22, 4, 26, 10, 27, 12, 33, 14, 35, 6).mate(2), 0);
        due("an answer that takes the queen", begun(0, 3, 14, 5, 6, 16, 13, 28, 13, 32, 5).mate(2), 0);
    }

    // ---- Promise 20

    private static void noGameFirst() {
        sentence("count, best, mate, moveAt, mobile, moves, value: "
            + "that no game is going on is tested before the other numbers.");
        SmallBoard[] boards = {new SmallBoard(), with(0, 6, 35, 14), game(0, 3, 0, 6, 35, 14), over(1)};
        boards[2].stop();
        boards[3].stop();
        for (SmallBoard x : boards) {
            for (int number : ANY_NUMBERS) {
                due("count(" + number + ")", x.count(number), -1);
                due("best(" + number + ")", x.best(number), -1);
                due("mate(" + number + ")", x.mate(number), -1);
                due("moveAt(" + number + ")", x.moveAt(number), -1);
                due("mobile(" + number + ")", x.mobile(number), -1);
                due("value(" + number + ")", x.value(number), -5000);
            }
            due("moves()", x.moves(), -1);
        }
    }

    public static void main(String[] args) {
        newObject();
        newObjectBesideAnother();
        putInPlace();
        putOnNoSquare();
        putNoPiece();
        putInGame();
        putPawnOnEndRow();
        putOnFullBoard();
        putAnswers();
        putOrder();
        clearAll();
        clearInGame();
        clearAnswers();
        beginWithBoard();
        beginInGame();
        beginWithNoSide();
        beginWithoutKings();
        beginWithOtherSideInCheck();
        beginAnswers();
        beginOrder();
        stopWhenOver();
        stopWithoutGame();
        stopAnswers();
        moveMoves();
        moveWithoutGame();
        moveWhenOver();
        moveWithNoSquare();
        moveNoLegalOne();
        moveAnswers();
        undoWithoutGame();
        undoWhenOver();
        undoGivesBack();
        undoInSecondGame();
        undoAnswers();
        result();
        overGoesOn();
        pieceAt();
        turn();
        check();
        attackersOfNothing();
        attackersCounted();
        moves();
        movesAreMany();
        moveAtEnds();
        mobileOfNothing();
        countDepths();
        countRows();
        longestWalks();
        valueDepths();
        bestOfEquals();
        bestDepths();
        mateNumbers();
        mateForced();
        mateOutOfCheck();
        noMoveWithoutCheckIsNoMate();
        noGameFirst();
        end();
    }
}
