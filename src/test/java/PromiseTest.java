/** For each promise of the document: ordinary inputs, the edges it names, and wrong inputs. */
public final class PromiseTest extends Checks {
    private static void newObject() {
        SmallBoard x = new SmallBoard();
        boardIs("1 new", x);
        due("1 turn", x.turn(), -1);
        due("1 result", x.result(), -1);
        due("1 stop", x.stop(), -1);
        due("1 clear", x.clear(), 0);
    }

    private static void put() {
        SmallBoard x = new SmallBoard();
        for (int square : WRONG_SQUARES) {
            due("2 square " + square, x.put(square, 6), -1);
            due("2 square before piece", x.put(square, 7), -1);
        }
        for (int piece : WRONG_PIECES) {
            due("2 piece " + piece, x.put(3, piece), -2);
        }
        for (int column = 0; column < 6; column++) {
            due("2 pawn on row 0", x.put(column, 1), -4);
            due("2 pawn on row 5", x.put(30 + column, 1), -4);
            due("2 pawn of 1 on row 0", x.put(column, 9), -4);
            due("2 pawn of 1 on row 5", x.put(30 + column, 9), -4);
        }
        boardIs("2 after refusals", x);
        for (int piece = 1; piece <= 6; piece++) {
            due("2 put", x.put(7, piece), piece == 1 ? 0 : piece + 7);
            due("2 put in place", x.put(7, piece + 8), piece);
        }
        due("2 take away", x.put(7, 0), 14);
        due("2 take nothing away", x.put(7, 0), 0);
        putOnFullBoard();
        putInGame();
    }

    private static void putOnFullBoard() {
        SmallBoard x = with(6, 1, 11, 1, 24, 9, 29, 9, 0, 6, 35, 14);
        due("2 seventh", x.put(14, 2), -5);
        due("2 pawn row before full", x.put(1, 1), -4);
        due("2 nothing on a full board", x.put(14, 0), 0);
        due("2 in place on a full board", x.put(6, 5), 1);
        due("2 still full", x.put(14, 2), -5);
        due("2 away", x.put(6, 0), 5);
        due("2 sixth again", x.put(14, 2), 0);
        boardIs("2 at the end", x, 14, 2, 11, 1, 24, 9, 29, 9, 0, 6, 35, 14);
    }

    private static void putInGame() {
        SmallBoard x = game(0, 3, 0, 6, 35, 14);
        due("2 in a game", x.put(14, 2), -3);
        due("2 nothing in a game", x.put(14, 0), -3);
        due("2 game before pawn row", x.put(1, 1), -3);
        due("2 square before game", x.put(36, 1), -1);
        due("2 piece before game", x.put(0, 8), -2);
        x.stop();
        due("2 after the game", x.put(14, 2), 0);
    }

    private static void clear() {
        SmallBoard x = with(0, 6, 35, 14, 14, 2);
        due("3 clear", x.clear(), 3);
        boardIs("3 cleared", x);
        due("3 clear again", x.clear(), 0);
        x = game(0, 3, 0, 6, 35, 14);
        due("3 in a game", x.clear(), -1);
        boardIs("3 refused", x, 0, 6, 35, 14);
        x.stop();
        due("3 after a game", x.clear(), 2);
    }

    private static void begin() {
        SmallBoard x = new SmallBoard();
        for (int side : WRONG_SIDES) {
            due("4 side before kings", x.begin(side), -2);
        }
        due("4 no king", x.begin(0), -3);
        x.put(0, 6);
        due("4 one king", x.begin(0), -3);
        x.put(35, 6);
        due("4 two kings of one side", x.begin(0), -3);
        x.put(35, 14);
        x.put(5, 14);
        due("4 three kings", x.begin(0), -3);
        x.put(5, 6);
        due("4 two kings of side 0", x.begin(1), -3);
        x.put(5, 0);
        x.put(29, 4);
        due("4 other side in check", x.begin(0), -4);
        due("4 refused", x.turn(), -1);
        due("4 in check itself", x.begin(1), 2);
        due("4 again", x.begin(0), -1);
        due("4 game before side", x.begin(2), -1);
        due("4 turn", x.turn(), 1);
        due("4 side 0 in check", with(0, 6, 35, 14, 3, 12).begin(1), -4);
        due("4 side 0 in check and to move", with(0, 6, 35, 14, 3, 12).begin(0), 2);
        due("4 kings next to each other", with(0, 6, 7, 14).begin(0), -4);
        due("4 no legal move", with(0, 14, 8, 5, 14, 6).begin(1), 0);
    }

    private static void stop() {
        SmallBoard x = game(0, 3, 0, 6, 35, 14);
        due("5 no move", x.stop(), 0);
        due("5 no game", x.stop(), -1);
        x.begin(0);
        play("5", x, 0, 1, 35, 34, 1, 2);
        x.undo();
        due("5 two moves", x.stop(), 2);
        boardIs("5 board", x, 1, 6, 34, 14);
        due("5 turn", x.turn(), -1);
        due("5 begin again", x.begin(1), 5);
        due("5 moves start anew", x.undo(), -2);
        x = game(0, 14, 0, 14, 13, 6, 16, 4);
        x.move(16, 4);
        due("5 over", x.result(), 1);
        due("5 stop when over", x.stop(), 1);
    }

    private static void move() {
        SmallBoard x = with(0, 6, 35, 14, 19, 1, 26, 10);
        due("6 no game", x.move(0, 1), -1);
        due("6 no game before squares", x.move(-1, 99), -1);
        x.begin(0);
        for (int square : WRONG_SQUARES) {
            due("6 from " + square, x.move(square, 1), -3);
            due("6 to " + square, x.move(0, square), -3);
        }
        due("6 to 64 is not from 1", x.move(-1, 65), -3);
        due("6 nothing there", x.move(14, 15), -3);
        due("6 other side's", x.move(35, 34), -3);
        due("6 stays", x.move(0, 0), -3);
        due("6 pawn two ahead", x.move(19, 31), -3);
        due("6 pawn aslant to an empty square", x.move(19, 24), -3);
        due("6 pawn backwards", x.move(19, 13), -3);
        due("6 pawn captures", x.move(19, 26), 10);
        boardIs("6 captured", x, 0, 6, 35, 14, 26, 1);
        due("6 turn", x.turn(), 1);
        due("6 moved side again", x.move(0, 1), -3);
        due("6 king", x.move(35, 34), 0);
        due("6 becomes a queen", x.move(26, 32), 0);
        due("6 queen", x.pieceAt(32), 5);
        due("6 left", x.pieceAt(26), 0);
        moveIntoCheck();
        moveOfPawnsOfSideOne();
    }

    private static void moveIntoCheck() {
        SmallBoard x = game(0, 8, 14, 6, 35, 14, 20, 4, 32, 12, 0, 11, 7, 2);
        due("6 pinned knight", x.move(7, 20), -3);
        due("6 pinned knight's free square", x.move(7, 15), -3);
        due("6 pinned rook off the line", x.move(20, 21), -3);
        due("6 pinned rook along the line", x.move(20, 32), 12);
        x = game(0, 1, 0, 6, 35, 14, 13, 12);
        due("6 into check", x.move(0, 1), -3);
        due("6 next to the rook", x.move(0, 7), -3);
        due("6 aside", x.move(0, 6), 0);
        x = game(0, 3, 0, 6, 35, 14, 7, 9);
        due("6 takes the pawn", x.move(0, 7), 9);
        x = game(0, 2, 0, 6, 35, 14, 7, 9, 14, 9);
        due("6 the pawn is guarded", x.move(0, 7), -3);
    }

    private static void moveOfPawnsOfSideOne() {
        SmallBoard x = game(1, 5, 30, 6, 35, 14, 8, 9, 1, 2);
        due("6 pawn of 1 backwards", x.move(8, 14), -3);
        due("6 pawn of 1 aslant", x.move(8, 3), -3);
        due("6 pawn of 1 captures", x.move(8, 1), 2);
        due("6 queen of 1", x.pieceAt(1), 13);
        x = game(0, 4, 0, 6, 35, 14, 11, 1, 18, 9);
        due("6 no capture over the edge", x.move(11, 18), -3);
        x = game(0, 3, 0, 6, 35, 14, 14, 1, 20, 9);
        due("6 pawn is stopped", x.move(14, 20), -3);
    }

    private static void undo() {
        SmallBoard x = with(0, 6, 29, 14, 26, 1, 31, 10, 21, 12);
        due("7 no game", x.undo(), -1);
        x.begin(0);
        due("7 no move", x.undo(), -2);
        due("7 capture and queen", x.move(26, 31), 10);
        due("7 queen", x.pieceAt(31), 5);
        due("7 reply", x.move(21, 3), 0);
        due("7 check", x.check(), 1);
        due("7 undo reply", x.undo(), 1);
        due("7 turn of 1", x.turn(), 1);
        boardIs("7 after one", x, 0, 6, 29, 14, 31, 5, 21, 12);
        due("7 undo first", x.undo(), 0);
        due("7 turn of 0", x.turn(), 0);
        boardIs("7 after two", x, 0, 6, 29, 14, 26, 1, 31, 10, 21, 12);
        due("7 none left", x.undo(), -2);
        x.stop();
        due("7 no game after stop", x.undo(), -1);
        x = game(0, 14, 0, 14, 13, 6, 16, 4);
        x.move(16, 4);
        due("7 over", x.move(0, 1), -2);
        due("7 undo when over", x.undo(), 0);
        due("7 no more over", x.result(), 0);
        due("7 goes on", x.move(16, 17), 0);
    }

    private static void result() {
        due("8 no game", with(0, 6, 35, 14).result(), -1);
        due("8 mate", game(1, 0, 0, 14, 7, 5, 14, 6).result(), 1);
        due("8 no legal move", game(1, 0, 0, 14, 8, 5, 14, 6).result(), 2);
        due("8 kings alone go on", game(0, 3, 0, 6, 35, 14).result(), 0);
        resultOfRepeats();
        resultOfOtherSideToMove();
        resultOfQuietMoves();
        resultOfLongGame();
        resultOfMateAndStalemateFirst();
    }

    private static void resultOfRepeats() {
        SmallBoard x = game(0, 3, 0, 6, 35, 14);
        int[] round = {0, 1, 35, 34, 1, 0, 34, 35};
        play("8 first round", x, round);
        play("8 second round", x, round);
        due("8 third time", x.result(), 3);
        due("8 over", x.move(0, 1), -2);
        due("8 over before legal", x.move(0, 35), -2);
        due("8 moves all the same", x.moves(), 3);
        due("8 count all the same", x.count(2), 9);
        due("8 undo", x.undo(), 7);
        due("8 second time", x.result(), 0);
        due("8 back again", x.move(34, 35), 0);
        due("8 third time again", x.result(), 3);
        x.undo();
        due("8 elsewhere", x.move(34, 33), 0);
        due("8 new position", x.result(), 0);
        due("8 stop", x.stop(), 8);
        due("8 begin anew", x.begin(0), 3);
        due("8 earlier game is not counted", x.result(), 0);
    }

    private static void resultOfOtherSideToMove() {
        SmallBoard x = game(0, 3, 0, 6, 35, 14);
        // King 0 comes back in three moves, king 1 in two: the first board stands with side 1 to move.
        play("8 triangle", x, 0, 1, 35, 34, 1, 6, 34, 35, 6, 0);
        play("8 triangle again", x, 35, 34, 0, 1, 34, 35, 1, 6, 35, 34, 6, 0, 34, 35);
        due("8 each side's positions count by themselves", x.result(), 0);
    }

    private static void resultOfQuietMoves() {
        SmallBoard x = game(0, 3, 0, 6, 35, 14);
        longGame("8 quiet", x, 0, 20);
        due("8 20 quiet moves", x.result(), 4);
        due("8 no 21st", x.move(7, 6), -2);
        due("8 moves all the same", x.moves(), 5 + 3);
        due("8 value all the same", x.value(1), 0);
        due("8 undo", x.undo(), 19);
        due("8 19 quiet moves", x.result(), 0);
        due("8 stop", x.stop(), 19);
        due("8 begin anew", x.begin(1), 5);
        due("8 counted anew", x.result(), 0);
        resultAfterPawnMoves();
        resultAfterCapture();
        resultOfRepeatsAheadOfQuietMoves();
    }

    private static void resultAfterPawnMoves() {
        SmallBoard x = game(0, 6, 0, 6, 35, 14, 12, 1, 14, 1, 17, 1);
        longGame("8 pawn on the 19th", x, 0, 39, 18);
        due("8 20 quiet moves after the pawn's", x.result(), 4);
        due("8 undo", x.undo(), 38);
        due("8 19 quiet moves after the pawn's", x.result(), 0);
        for (int left = 37; left >= 18; left--) {
            due("8 undo to " + left, x.undo(), left);
            due("8 not over at " + left, x.result(), 0);
        }
        due("8 quiet instead of the pawn's", x.move(8, 7), 0);
        due("8 19 quiet moves from the beginning", x.result(), 0);
        due("8 20th", x.move(34, 35), 0);
        due("8 20 quiet moves from the beginning", x.result(), 4);
    }

    private static void resultAfterCapture() {
        SmallBoard x = game(0, 7, 0, 6, 35, 14, 33, 2);
        play("8 to the capture", x, 0, 1, 35, 34, 1, 2);
        due("8 capture", x.move(34, 33), 2);
        int[] zero = {2, 3, 4, 5, 11, 10, 9, 8, 7, 6, 0};
        int[] one = {33, 32, 31, 30, 24, 25, 26, 27, 28, 29, 35};
        for (int i = 0; i < 10; i++) {
            play("8 after the capture", x, zero[i], zero[i + 1], one[i], one[i + 1]);
        }
        due("8 20 quiet moves after the capture", x.result(), 4);
        due("8 undo", x.undo(), 23);
        due("8 19 quiet moves after the capture", x.result(), 0);
    }

    private static void resultOfRepeatsAheadOfQuietMoves() {
        SmallBoard x = game(0, 3, 0, 6, 35, 14);
        longGame("8 twelve moves", x, 0, 12);
        play("8 back and forth", x, 11, 10, 31, 32, 10, 11, 32, 31, 11, 10, 31, 32, 10, 11, 32, 31);
        due("8 third time and 20 quiet moves", x.result(), 3);
    }

    private static void resultOfLongGame() {
        SmallBoard x = game(0, 6, 0, 6, 35, 14, 12, 1, 14, 1, 17, 1);
        longGame("8 60 moves", x, 0, 60, 18, 36, 54);
        due("8 60 moves", x.result(), 5);
        due("8 no 61st", x.move(3, 4), -2);
        due("8 undo", x.undo(), 59);
        due("8 59 moves", x.result(), 0);
        due("8 60th again", x.move(34, 35), 0);
        due("8 60 moves again", x.result(), 5);
        due("8 all made", x.stop(), 60);
        x = game(1, 3, 0, 6, 35, 14, 12, 1, 14, 1, 17, 1);
        longGame("8 60 moves, 20 quiet", x, 1, 60, 19, 39);
        due("8 60 moves and 20 quiet ones", x.result(), 4);
    }

    /** A rook and a king against a king in the corner, up to the rook's last move, the game's 20th. */
    private static SmallBoard rookGame(int lastButOne) {
        SmallBoard x = game(1, 1, 0, 14, 13, 6, 17, 4);
        int[] rook = {17, 23, 22, 21, 27, 28, 29, 35, 34, lastButOne};
        for (int i = 0; i < 9; i++) {
            play("8 rook", x, i % 2, 1 - i % 2, rook[i], rook[i + 1]);
        }
        play("8 rook", x, 1, 0);
        return x;
    }

    private static void resultOfMateAndStalemateFirst() {
        SmallBoard x = rookGame(16);
        due("8 mates", x.move(16, 4), 0);
        due("8 mate and 20 quiet moves", x.result(), 1);
        x.undo();
        due("8 mates not", x.move(16, 17), 0);
        due("8 no mate and 20 quiet moves", x.result(), 4);
        x = rookGame(10);
        due("8 leaves no move", x.move(10, 7), 0);
        due("8 no legal move and 20 quiet moves", x.result(), 2);
    }

    private static void pieceAt() {
        SmallBoard x = with(0, 6, 35, 14);
        due("9 corner", x.pieceAt(0), 6);
        due("9 other corner", x.pieceAt(35), 14);
        due("9 none", x.pieceAt(1), 0);
        for (int square : WRONG_SQUARES) {
            due("9 square " + square, x.pieceAt(square), -1);
        }
        x.begin(0);
        x.move(0, 7);
        due("9 moved", x.pieceAt(7), 6);
        due("9 left", x.pieceAt(0), 0);
        due("9 square in a game", x.pieceAt(36), -1);
    }

    private static void turn() {
        SmallBoard x = with(0, 6, 35, 14);
        due("10 no game", x.turn(), -1);
        x.begin(1);
        due("10 side 1", x.turn(), 1);
        x.move(35, 34);
        due("10 side 0", x.turn(), 0);
        x.move(0, 99);
        due("10 refused", x.turn(), 0);
        x.undo();
        due("10 back", x.turn(), 1);
        x.stop();
        due("10 stopped", x.turn(), -1);
        x.begin(0);
        due("10 begun with side 0", x.turn(), 0);
    }

    private static void check() {
        SmallBoard x = with(0, 6, 35, 14, 3, 12);
        due("11 no game", x.check(), -1);
        x.begin(0);
        due("11 rook", x.check(), 1);
        x.move(0, 6);
        due("11 side 1 is not", x.check(), 0);
        x.stop();
        due("11 stopped", x.check(), -1);
        due("11 rook is blocked", begunCheck(0, 6, 3, 12, 35, 14, 2, 2), 0);
        due("11 bishop", begunCheck(0, 6, 28, 11, 30, 14), 1);
        due("11 bishop is blocked", begunCheck(0, 6, 28, 11, 30, 14, 14, 9), 0);
        due("11 queen", begunCheck(0, 6, 28, 13, 30, 14), 1);
        due("11 knight", begunCheck(0, 6, 8, 10, 30, 14, 7, 1, 1, 2, 6, 1), 1);
        due("11 pawn", begunCheck(14, 6, 21, 9, 0, 14), 1);
        due("11 pawn behind", begunCheck(14, 6, 7, 9, 0, 14), 0);
        due("11 pawn ahead", begunCheck(14, 6, 20, 9, 0, 14), 0);
    }

    private static int begunCheck(int... squaresAndPieces) {
        SmallBoard x = with(squaresAndPieces);
        x.begin(0);
        return x.check();
    }

    private static void attackers() {
        SmallBoard x = with(14, 6, 20, 1, 7, 11, 27, 10, 33, 14, 2, 4);
        for (int square : WRONG_SQUARES) {
            due("12 square " + square, x.attackers(square, 0), -1);
            due("12 square and side", x.attackers(square, 2), -1);
        }
        for (int side : WRONG_SIDES) {
            due("12 side " + side, x.attackers(14, side), -1);
        }
        due("12 bishop and knight on the king", x.attackers(14, 1), 2);
        due("12 the rook guards its king", x.attackers(14, 0), 1);
        due("12 the king guards its pawn", x.attackers(20, 0), 1);
        due("12 the king is in the rook's way", x.attackers(26, 0), 0);
        due("12 pawn on an enemy's square", x.attackers(27, 0), 1);
        due("12 pawn and king on an empty square", x.attackers(21, 0), 1);
        due("12 pawn aside", x.attackers(25, 0), 1);
        due("12 king guards the knight", x.attackers(27, 1), 1);
        due("12 bishop is stopped by the king", x.attackers(21, 1), 0);
        due("12 a piece does not attack its own square", x.attackers(2, 0), 0);
        x = with(11, 1, 17, 9, 18, 4, 0, 2, 5, 3);
        due("12 pawn does not reach over the edge", x.attackers(18, 0), 0);
        due("12 pawn at the edge", x.attackers(16, 0), 1);
        due("12 knight does not reach over the edge", x.attackers(10, 0), 1);
        due("12 pawn of side 1", x.attackers(10, 1), 1);
        due("12 pawn of side 1 looks to lesser rows", x.attackers(22, 1), 0);
        due("12 two kings of a side count", with(0, 6, 2, 6).attackers(1, 0), 2);
        due("12 in a game", game(0, 3, 0, 6, 35, 14).attackers(7, 0), 1);
        attackersOfQueen();
    }

    private static void attackersOfQueen() {
        SmallBoard x = with(14, 13);
        int attacked = 0;
        for (int square = 0; square < 36; square++) {
            attacked += x.attackers(square, 1);
        }
        due("12 queen in the open", attacked, 19);
        x.put(14, 12);
        due("12 rook along its row", x.attackers(17, 1), 1);
        due("12 rook not aslant", x.attackers(21, 1), 0);
        x.put(14, 11);
        due("12 bishop aslant", x.attackers(35, 1), 1);
        due("12 bishop not along its row", x.attackers(15, 1), 0);
    }

    private static void moves() {
        due("13 no game", with(0, 6, 35, 14).moves(), -1);
        SmallBoard x = game(0, 7, 0, 6, 35, 14, 2, 2);
        due("13 king and knight", x.moves(), 7);
        x.move(0, 1);
        due("13 other side", x.moves(), 3);
        due("13 mated", game(1, 0, 0, 14, 7, 5, 14, 6).moves(), 0);
        // Of the pawn's three targets all become queens, and each is one move.
        due("13 pawn to the last row", game(0, 3 + 3, 0, 6, 18, 14, 27, 1, 32, 10, 34, 10).moves(), 6);
    }

    private static void moveAt() {
        due("14 no game", with(0, 6, 35, 14).moveAt(0), -1);
        due("14 no game before k", with(0, 6, 35, 14).moveAt(-1), -1);
        SmallBoard x = game(0, 7, 0, 6, 35, 14, 2, 2);
        int[] numbers = {1, 6, 7, 64 * 2 + 6, 64 * 2 + 10, 64 * 2 + 13, 64 * 2 + 15};
        for (int k = 0; k < numbers.length; k++) {
            due("14 move " + k, x.moveAt(k), numbers[k]);
        }
        due("14 after the last", x.moveAt(7), -2);
        due("14 far after", x.moveAt(Integer.MAX_VALUE), -2);
        due("14 before the first", x.moveAt(-1), -2);
        due("14 far before", x.moveAt(Integer.MIN_VALUE), -2);
        due("14 mated", game(1, 0, 0, 14, 7, 5, 14, 6).moveAt(0), -2);
    }

    private static void mobile() {
        due("15 no game", with(0, 6, 35, 14).mobile(0), -1);
        due("15 no game before the square", with(0, 6, 35, 14).mobile(36), -1);
        SmallBoard x = game(0, 7, 0, 6, 35, 14, 2, 2);
        for (int square : WRONG_SQUARES) {
            due("15 square " + square, x.mobile(square), 0);
        }
        due("15 king", x.mobile(0), 3);
        due("15 knight", x.mobile(2), 4);
        due("15 none there", x.mobile(1), 0);
        due("15 other side's", x.mobile(35), 0);
        x.move(2, 6);
        due("15 not its turn", x.mobile(0), 0);
        due("15 its turn", x.mobile(35), 3);
        due("15 pinned", game(0, 8, 14, 6, 35, 14, 20, 4, 32, 12, 0, 11, 7, 2).mobile(7), 0);
    }

    private static void count() {
        for (int depth = -1; depth <= 4; depth++) {
            due("16 no game", with(0, 6, 35, 14).count(depth), -1);
        }
        SmallBoard x = game(0, 3, 0, 6, 35, 14);
        int[] wrongDepths = {-1, 4, Integer.MIN_VALUE, Integer.MAX_VALUE};
        for (int depth : wrongDepths) {
            due("16 depth " + depth, x.count(depth), -2);
        }
        due("16 depth 0", x.count(0), 1);
        due("16 depth 1", x.count(1), 3);
        due("16 depth 2", x.count(2), 9);
        // After the king's move to 1 or 6 it has 5 moves, after the one to 7 it has 8.
        due("16 depth 3", x.count(3), 3 * (5 + 5 + 8));
        boardIs("16 board", x, 0, 6, 35, 14);
        due("16 turn", x.turn(), 0);
        x = game(1, 0, 0, 14, 7, 5, 14, 6);
        due("16 mated, depth 0", x.count(0), 1);
        due("16 mated, depth 1", x.count(1), 0);
        due("16 mated, depth 3", x.count(3), 0);
    }

    private static void value() {
        for (int depth = -1; depth <= 4; depth++) {
            due("17 no game", with(0, 6, 35, 14).value(depth), -5000);
        }
        SmallBoard x = game(0, 3, 0, 6, 35, 14);
        int[] wrongDepths = {-1, 4, Integer.MIN_VALUE, Integer.MAX_VALUE};
        for (int depth : wrongDepths) {
            due("17 depth " + depth, x.value(depth), -4000);
        }
        for (int depth = 0; depth <= 3; depth++) {
            due("17 kings", x.value(depth), 0);
        }
        int[] worths = {0, 1, 3, 3, 5, 9};
        for (int kind = 1; kind <= 5; kind++) {
            due("17 worth", begunValue(0, 0, 6, 23, 14, 26, kind), worths[kind]);
            due("17 worth against", begunValue(0, 0, 6, 33, 14, 9, kind + 8), -worths[kind]);
            due("17 worth for side 1", begunValue(1, 0, 6, 33, 14, 9, kind + 8), worths[kind]);
        }
        valueOfEnds();
    }

    private static int begunValue(int side, int... squaresAndPieces) {
        SmallBoard x = with(squaresAndPieces);
        x.begin(side);
        return x.value(0);
    }

    private static void valueOfEnds() {
        SmallBoard x = game(1, 0, 0, 14, 7, 5, 14, 6);
        due("17 mated, depth 0", x.value(0), -9);
        for (int depth = 1; depth <= 3; depth++) {
            due("17 mated, depth " + depth, x.value(depth), -1000 - depth);
        }
        x = game(1, 0, 0, 14, 8, 5, 14, 6);
        due("17 no legal move, depth 0", x.value(0), -9);
        for (int depth = 1; depth <= 3; depth++) {
            due("17 no legal move, depth " + depth, x.value(depth), 0);
        }
        x = game(0, 14, 0, 14, 13, 6, 16, 4);
        due("17 mates in one, depth 1", x.value(1), 5);
        due("17 mates in one, depth 2", x.value(2), 1001);
        due("17 mates in one, depth 3", x.value(3), 1002);
        boardIs("17 board", x, 0, 14, 13, 6, 16, 4);
        due("17 turn", x.turn(), 0);
        x = game(0, 4, 0, 6, 35, 14, 24, 1);
        due("17 pawn becomes a queen", x.value(1), 9);
        x = game(0, 2, 0, 6, 35, 14, 1, 12, 12, 1);
        due("17 takes the rook", x.value(1), 1);
    }

    private static void best() {
        for (int depth = 0; depth <= 4; depth++) {
            due("18 no game", with(0, 6, 35, 14).best(depth), -1);
        }
        SmallBoard x = game(0, 3, 0, 6, 35, 14);
        int[] wrongDepths = {-1, 0, 4, Integer.MIN_VALUE, Integer.MAX_VALUE};
        for (int depth : wrongDepths) {
            due("18 depth " + depth, x.best(depth), -2);
        }
        for (int depth = 1; depth <= 3; depth++) {
            due("18 least number of equals", x.best(depth), 1);
            due("18 mated", game(1, 0, 0, 14, 7, 5, 14, 6).best(depth), -3);
            due("18 no legal move", game(1, 0, 0, 14, 8, 5, 14, 6).best(depth), -3);
        }
        due("18 depth before legal move", game(1, 0, 0, 14, 7, 5, 14, 6).best(0), -2);
        x = game(0, 14, 0, 14, 13, 6, 16, 4);
        due("18 does not see the mate", x.best(1), 64 * 13 + 8);
        due("18 sees the mate", x.best(2), 64 * 16 + 4);
        boardIs("18 board", x, 0, 14, 13, 6, 16, 4);
        x.move(16, 4);
        due("18 mated after an earlier best", x.best(2), -3);
        // The knight on 14 is guarded by the pawn on 19.
        x = game(0, 9, 0, 6, 35, 14, 16, 4, 14, 10, 19, 9);
        due("18 takes what is guarded", x.best(1), 64 * 16 + 14);
        due("18 sees the guard", x.best(2), 7);
    }

    private static void mate() {
        for (int n = 0; n <= 3; n++) {
            due("19 no game", with(0, 6, 35, 14).mate(n), -1);
        }
        SmallBoard x = game(0, 3, 0, 6, 35, 14);
        int[] wrongNumbers = {-1, 0, 3, Integer.MIN_VALUE, Integer.MAX_VALUE};
        for (int n : wrongNumbers) {
            due("19 n " + n, x.mate(n), -2);
        }
        due("19 kings in 1", x.mate(1), 0);
        due("19 kings in 2", x.mate(2), 0);
        x = game(0, 14, 0, 14, 13, 6, 16, 4);
        due("19 in 1", x.mate(1), 1);
        due("19 in 1 is in 2", x.mate(2), 1);
        boardIs("19 board", x, 0, 14, 13, 6, 16, 4);
        due("19 turn", x.turn(), 0);
        mateInTwo();
        x = game(1, 0, 0, 14, 7, 5, 14, 6);
        due("19 mated itself", x.mate(1), 0);
        due("19 mated itself, 2", x.mate(2), 0);
        x = game(1, 0, 0, 14, 8, 5, 14, 6);
        due("19 no legal move, 1", x.mate(1), 0);
        due("19 no legal move, 2", x.mate(2), 0);
    }

    private static void mateInTwo() {
        // Two rooks: one shuts the row off, the other mates on the last one.
        SmallBoard x = game(0, 22, 32, 14, 18, 4, 13, 4, 0, 6);
        due("19 two rooks in 1", x.mate(1), 0);
        due("19 two rooks in 2", x.mate(2), 1);
        // The same with the sides changed.
        x = game(1, 22, 2, 6, 12, 12, 19, 12, 30, 14);
        due("19 two rooks of side 1 in 1", x.mate(1), 0);
        due("19 two rooks of side 1 in 2", x.mate(2), 1);
        // One rook and a far king force nothing so soon.
        x = game(0, 12, 32, 14, 18, 4, 0, 6);
        due("19 one rook in 2", x.mate(2), 0);
    }

    private static void orderAndLimits() {
        SmallBoard x = with(0, 6, 35, 14);
        x.begin(0);
        x.stop();
        int[] numbers = {Integer.MIN_VALUE, -1, 0, 1, 4, 36, Integer.MAX_VALUE};
        for (int number : numbers) {
            due("20 count", x.count(number), -1);
            due("20 best", x.best(number), -1);
            due("20 mate", x.mate(number), -1);
            due("20 moveAt", x.moveAt(number), -1);
            due("20 mobile", x.mobile(number), -1);
            due("20 value", x.value(number), -5000);
        }
        due("20 moves", x.moves(), -1);
    }

    public static void main(String[] args) {
        newObject();
        put();
        clear();
        begin();
        stop();
        move();
        undo();
        result();
        pieceAt();
        turn();
        check();
        attackers();
        moves();
        moveAt();
        mobile();
        count();
        value();
        best();
        mate();
        orderAndLimits();
        end();
    }
}
