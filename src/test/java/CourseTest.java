/** The course of a game, its five ways of being over, and what looking ahead knows of them, sentence by sentence. */
public final class CourseTest extends Checks {
    /**
     * King 13 and a rook against king 0, which goes to 1 and back, after the given number of moves; 'first'
     * is the side that begins. The rook goes round a lap of 12 squares from 15 on. With pawns, side 0's
     * moves 9, 18 and 27 are moves of these.
     */
    private static SmallBoard rookGame(int first, boolean pawns, int moves) {
        int[] lap = {15, 16, 17, 23, 22, 21, 27, 28, 29, 35, 34, 33};
        SmallBoard x = pawns ? with(0, 14, 13, 6, 15, 4, 12, 1, 14, 1) : with(0, 14, 13, 6, 15, 4);
        due("rook game: begin", x.begin(first) > 0);
        int ofZero = 0;
        int ofRook = 0;
        for (int i = 0; i < moves; i++) {
            if ((i + first) % 2 == 1) {
                int at = i / 2 % 2;
                play("rook game", x, at, 1 - at);
                continue;
            }
            ofZero++;
            if (pawns && ofZero % 9 == 0) {
                int from = ofZero == 9 ? 12 : ofZero == 18 ? 18 : 14;
                play("rook game", x, from, from + 6);
            } else {
                play("rook game", x, lap[ofRook % 12], lap[(ofRook + 1) % 12]);
                ofRook++;
            }
        }
        return x;
    }

    // ---- A game

    private static void sidesMoveByTurns() {
        sentence("A GAME begins with a position and a side to move; legal moves of the two sides follow one another.");
        for (int side = 0; side < 2; side++) {
            SmallBoard x = game(side, 3, 0, 6, 35, 14);
            int first = 35 * side;
            int second = 35 - first;
            due("begins", x.turn(), side);
            due("the other side first", x.move(second, second == 0 ? 1 : 34), -3);
            due("first", x.move(first, first == 0 ? 1 : 34), 0);
            due("the other side's turn", x.turn(), 1 - side);
            due("the same side again", x.move(first == 0 ? 1 : 34, first), -3);
            due("second", x.move(second, second == 0 ? 1 : 34), 0);
            due("the first side's turn", x.turn(), side);
        }
    }

    private static void mate() {
        sentence("1: the side to move is in check and has no legal move");
        due("queen next to the king", mated().result(), 1);
        SmallBoard x = cornered();
        due("before the mate", x.result(), 0);
        due("the mating move", x.move(16, 4), 0);
        due("rook on the last row", x.result(), 1);
        due("begun with a mate, side 0", game(0, 0, 35, 6, 28, 13, 21, 14).result(), 1);
        // A knight mates a king that its own pieces shut in.
        due("smothered", game(0, 0, 0, 6, 1, 4, 6, 1, 7, 1, 8, 10, 35, 14).result(), 1);
    }

    private static void checkAlone() {
        sentence("1: the side to move is in check and has no legal move");
        due("the king can go", begun(1, 0, 14, 4, 4, 35, 6).result(), 0);
        due("the king can capture", begun(1, 0, 14, 7, 5, 35, 6).result(), 0);
        due("a rook can stand between", begun(1, 0, 14, 4, 4, 13, 6, 33, 12).result(), 0);
        due("a rook can capture", begun(1, 0, 14, 4, 4, 13, 6, 34, 12).result(), 0);
        due("a pawn can capture", begun(1, 0, 14, 4, 4, 13, 6, 11, 9).result(), 0);
        due("none of these", begun(1, 0, 14, 4, 4, 13, 6, 35, 12, 29, 9).result(), 1);
    }

    private static void noLegalMove() {
        sentence("2: it has no legal move");
        due("king alone", stalemated().result(), 2);
        SmallBoard x = cornered();
        play("to it", x, 16, 10, 0, 1, 10, 11, 1, 0, 11, 7);
        due("played", x.result(), 2);
        due("no check", x.check(), 0);
        due("moves", x.moves(), 0);
        due("a pawn that is stopped", game(1, 0, 0, 14, 8, 5, 14, 6, 27, 9, 21, 2).result(), 2);
        due("a pinned knight", game(1, 0, 0, 14, 1, 10, 3, 4, 13, 6).result(), 2);
        due("a pawn that can move", game(1, 1, 0, 14, 8, 5, 14, 6, 27, 9).result(), 0);
        due("a knight that can move", game(1, 2, 0, 14, 8, 5, 14, 6, 35, 10).result(), 0);
        for (int side = 0; side < 2; side++) {
            due("side " + side, begunBy(side, 0, 6, 8, 13, 14, 14).result(), 2);
            due("side " + side + " in check", begunBy(side, 0, 6, 7, 13, 14, 14).result(), 1);
        }
    }

    // ---- Way 3

    private static void thirdTime() {
        sentence("3: the same position (the same pieces on the same squares, the same side to move) "
            + "stands for the third time or more since the game began");
        due("second time", roundsAfter(4).result(), 0);
        due("the move before", roundsAfter(7).result(), 0);
        due("third time", roundsAfter(8).result(), 3);
        due("no more moves", roundsAfter(8).move(0, 1), -2);
    }

    /** Both kings, from the corners 0 and 35, come back to them in so many moves each. */
    private static void roundOf(int length, SmallBoard x, int side) {
        int[][] laps = {{0, 1}, {0, 1, 6}, {0, 1, 7, 6}, {0, 1, 8, 7, 6}, {0, 1, 2, 8, 7, 6}, {0, 1, 2, 9, 8, 7, 6},
            {0, 1, 2, 3, 9, 8, 7, 6}};
        int[] lap = laps[length - 2];
        for (int i = 0; i < length; i++) {
            int from = lap[i];
            int to = lap[(i + 1) % length];
            if (side == 0) {
                play("round of " + length, x, from, to, 35 - from, 35 - to);
            } else {
                play("round of " + length, x, 35 - from, 35 - to, from, to);
            }
        }
    }

    private static void thirdTimeAfterRoundsOfAnyLength() {
        sentence("stands for the third time or more since the game began");
        for (int first = 2; first <= 8; first++) {
            // Up to the 20th move, where way 4 applies too, but later.
            for (int second = 2; first + second <= 10; second++) {
                for (int side = 0; side < 2; side++) {
                    SmallBoard x = game(side, 3, 0, 6, 35, 14);
                    roundOf(first, x, side);
                    due("second time after a round of " + first, x.result(), 0);
                    roundOf(second, x, side);
                    due("third time after rounds of " + first + " and " + second, x.result(), 3);
                }
            }
        }
    }

    private static void beginningCounts() {
        sentence("the beginning counted too");
        due("beginning and two more", roundsAfter(8).result(), 3);
        SmallBoard x = game(0, 3, 0, 6, 35, 14);
        play("away from the beginning", x, 0, 7);
        for (int i = 0; i < 2; i++) {
            play("to and fro", x, 35, 34, 7, 8, 34, 35, 8, 7);
        }
        due("another position than the beginning", x.result(), 3);
        due("undo", x.undo(), 8);
        due("one before", x.result(), 0);
    }

    private static void thirdTimeOfOtherGame() {
        sentence("stands for the third time or more since the game began");
        SmallBoard x = roundsAfter(8);
        due("stop", x.stop(), 8);
        due("begin", x.begin(0), 3);
        due("the third time is forgotten", x.result(), 0);
        play("a round", x, 0, 1, 35, 34, 1, 0, 34, 35);
        due("second time in this game", x.result(), 0);
        play("a round", x, 0, 1, 35, 34, 1, 0, 34, 35);
        due("third time in this game", x.result(), 3);
        x.stop();
        due("another beginning", x.put(2, 10), 0);
        due("begin", x.begin(0) > 0);
        play("a round", x, 0, 1, 35, 34, 1, 0, 34, 35);
        due("second time of the other beginning", x.result(), 0);
        play("a round", x, 0, 1, 35, 34, 1, 0, 34, 35);
        due("third time of the other beginning", x.result(), 3);
    }

    private static void otherSideToMove() {
        sentence("the same side to move");
        SmallBoard x = game(0, 3, 0, 6, 35, 14);
        // King 0 comes back in three moves, king 1 in two: the first board stands with side 1 to move.
        play("triangle", x, 0, 1, 35, 34, 1, 6, 34, 35, 6, 0);
        play("triangle again", x, 35, 34, 0, 1, 34, 35, 1, 6, 35, 34, 6, 0, 34, 35);
        boardIs("the same board", x, 0, 6, 35, 14);
        due("each side's positions count by themselves", x.result(), 0);
    }

    /** The pieces on 8 and 9 change their places in four moves, while king 1 goes to and fro. */
    private static void changePlaces(SmallBoard x) {
        play("change", x, 8, 2, 35, 34, 9, 8, 34, 35, 2, 3, 35, 34, 3, 9, 34, 35);
    }

    private static void samePieces() {
        sentence("the same pieces on the same squares");
        SmallBoard x = begun(0, 0, 6, 35, 14, 8, 4, 9, 4);
        changePlaces(x);
        due("two rooks have changed places", x.result(), 0);
        changePlaces(x);
        due("two rooks have changed places again", x.result(), 3);
        x = begun(0, 0, 6, 35, 14, 8, 4, 9, 5);
        changePlaces(x);
        changePlaces(x);
        boardIs("rook and queen are back", x, 0, 6, 35, 14, 8, 4, 9, 5);
        due("rook and queen are back for the first time", x.result(), 0);
    }

    private static void piecesOfTheSameSide() {
        sentence("the same pieces on the same squares");
        SmallBoard x = begun(0, 5, 6, 35, 14, 13, 2, 15, 10);
        play("the knights of the two sides change places", x, 13, 26, 15, 2, 26, 15, 2, 13);
        boardIs("changed", x, 5, 6, 35, 14, 13, 10, 15, 2);
        play("and change back", x, 15, 26, 13, 2, 26, 13, 2, 15);
        boardIs("back", x, 5, 6, 35, 14, 13, 2, 15, 10);
        due("in between the knights on 13 and 15 were of the other sides", x.result(), 0);
        play("half the way again", x, 13, 26, 15, 2);
        due("half the way is the same each time", x.result(), 3);
    }

    /**
     * A board stands twice; then the rook takes the knight in the corner and comes back, so that the
     * third board differs from the others in the corner alone.
     */
    private static void otherInCornerAlone(int corner, int rook, int king, int other) {
        SmallBoard x = begun(0, corner, 10, rook, 4, king, 6, other, 14);
        play("a round", x, king, king + 1, other, other + 6, king + 1, king, other + 6, other);
        due("the rook takes the knight", x.move(rook, corner), 10);
        play("and comes back", x, other, other + 6, corner, rook, other + 6, other);
        boardIs("all but the knight", x, rook, 4, king, 6, other, 14);
        due("the first time without the knight on " + corner, x.result(), 0);
    }

    private static void otherOnOneSquare() {
        sentence("the same pieces on the same squares");
        otherInCornerAlone(0, 3, 31, 17);
        otherInCornerAlone(5, 2, 30, 12);
        otherInCornerAlone(30, 33, 3, 17);
        otherInCornerAlone(35, 32, 3, 12);
    }

    // ---- Way 4

    private static void twentyMoves() {
        sentence("4: 20 moves or more, of both sides together, have been made since the game began "
            + "without a capture or a move of a pawn");
        due("19", kingsAfter(19).result(), 0);
        due("20", kingsAfter(20).result(), 4);
        due("no 21st", kingsAfter(20).move(7, 6), -2);
        SmallBoard x = game(1, 3, 0, 6, 35, 14);
        longGame("side 1 begins", x, 1, 19);
        due("19 from side 1 on", x.result(), 0);
        due("20th", x.move(8, 7), 0);
        due("20 from side 1 on", x.result(), 4);
    }

    private static void twentyMovesOfOtherGame() {
        sentence("have been made since the game began");
        SmallBoard x = kingsAfter(19);
        due("stop", x.stop(), 19);
        due("begin", x.begin(1), 5);
        due("a 20th in a new game", x.move(34, 35), 0);
        due("counted from its beginning", x.result(), 0);
        x = kingsAfter(20);
        x.stop();
        due("begin", x.begin(0), 8);
        due("over no more", x.result(), 0);
    }

    /** Moves of the side that begins and of the other by turns, told as if side 0 began. */
    private static void playBy(int side, SmallBoard x, int moves, int[] own, int[] others) {
        for (int i = 0; i < moves; i++) {
            int[] way = i % 2 == 0 ? own : others;
            play("by turns", x, seenBy(side, way[i / 2]), seenBy(side, way[i / 2 + 1]));
        }
    }

    /** 19 quiet moves, after which the king of the side that did not begin, on 31, can capture the bishop on 30. */
    private static SmallBoard beforeCapture(int side) {
        int[] own = {0, 1, 2, 3, 4, 5, 11, 10, 9, 8, 7};
        int[] others = {35, 34, 35, 34, 35, 29, 34, 33, 32, 31};
        SmallBoard x = begunBy(side, 0, 6, 35, 14, 30, 3);
        playBy(side, x, 19, own, others);
        return x;
    }

    private static int capture(int side, SmallBoard x) {
        return x.move(seenBy(side, 31), seenBy(side, 30));
    }

    private static void captureStartsAnew() {
        sentence("without a capture or a move of a pawn, counted from the last such move on");
        for (int side = 0; side < 2; side++) {
            SmallBoard x = beforeCapture(side);
            due("the 20th is a capture by side " + (1 - side), capture(side, x), 3 + 8 * side);
            due("not over", x.result(), 0);
            int[] own = {7, 6, 0, 1, 2, 3, 4, 5, 11, 10, 9};
            int[] others = {30, 31, 32, 33, 34, 35, 29, 28, 27, 26, 25};
            playBy(side, x, 19, own, others);
            due("19 after the capture", x.result(), 0);
            due("20th after the capture", x.move(seenBy(side, 26), seenBy(side, 25)), 0);
            due("20 after the capture", x.result(), 4);
        }
    }

    private static void captureTakenBack() {
        sentence("Moves that were taken back are not counted.");
        for (int side = 0; side < 2; side++) {
            SmallBoard x = beforeCapture(side);
            due("capture by side " + (1 - side), capture(side, x), 3 + 8 * side);
            due("undo", x.undo(), 19);
            due("19 quiet moves again", x.result(), 0);
            due("a quiet move instead", x.move(seenBy(side, 31), seenBy(side, 32)), 0);
            due("20 quiet moves", x.result(), 4);
            due("undo", x.undo(), 19);
            due("the capture after all", capture(side, x), 3 + 8 * side);
            due("not over", x.result(), 0);
        }
    }

    private static void pawnStartsAnew() {
        sentence("without a capture or a move of a pawn, counted from the last such move on");
        SmallBoard x = game(1, 3, 0, 6, 35, 14, 12, 1, 14, 1, 17, 1);
        longGame("the 20th is a pawn's", x, 1, 20, 19);
        due("not over", x.result(), 0);
        x = game(1, 3, 0, 6, 35, 14, 12, 1, 14, 1, 17, 1);
        longGame("the 20th is a pawn's", x, 1, 39, 19);
        due("19 after the pawn's", x.result(), 0);
        x = game(1, 3, 0, 6, 35, 14, 12, 1, 14, 1, 17, 1);
        longGame("the 20th is a pawn's", x, 1, 40, 19);
        due("20 after the pawn's", x.result(), 4);
        // Side 1's pawn does the same.
        x = game(0, 3, 0, 6, 35, 14, 24, 9);
        longGame("19 moves", x, 0, 19);
        due("the 20th is a move of side 1's pawn", x.move(24, 18), 0);
        due("not over", x.result(), 0);
        due("undo", x.undo(), 19);
        due("king instead", x.move(34, 35), 0);
        due("over", x.result(), 4);
    }

    private static void pawnTakenBack() {
        sentence("Moves that were taken back are not counted.");
        SmallBoard x = game(1, 3, 0, 6, 35, 14, 12, 1, 14, 1, 17, 1);
        longGame("19 moves", x, 1, 19);
        due("pawn", x.move(12, 18), 0);
        due("not over", x.result(), 0);
        due("undo", x.undo(), 19);
        due("king instead", x.move(8, 7), 0);
        due("over", x.result(), 4);
    }

    private static void queeningStartsAnew() {
        sentence("without a capture or a move of a pawn, counted from the last such move on");
        int[] zero = {0, 1, 2, 3, 4, 5, 11, 10, 9, 8};
        SmallBoard x = begun(1, 0, 6, 35, 14, 24, 1);
        for (int i = 0; i < 9; i++) {
            play("before the queen", x, 35 - i % 2, 34 + i % 2, zero[i], zero[i + 1]);
        }
        play("before the queen", x, 34, 35);
        due("the 20th makes a queen", x.move(24, 30), 0);
        due("not over", x.result(), 0);
        x.undo();
        due("king instead", x.move(8, 7), 0);
        due("over", x.result(), 4);
    }

    // ---- Way 5

    private static void sixtyMoves() {
        sentence("5: 60 moves have been made.");
        due("59", pawnsAfter(59).result(), 0);
        SmallBoard x = pawnsAfter(60);
        due("60", x.result(), 5);
        due("no 61st", x.move(3, 4), -2);
        due("undo", x.undo(), 59);
        due("59 are left", x.result(), 0);
        due("stop", x.stop(), 59);
        due("begin anew", x.begin(1), 3);
        due("the first of a new game", x.move(34, 35), 0);
        due("counted anew", x.result(), 0);
    }

    // ---- The first that applies

    private static void mateFirst() {
        sentence("It is OVER, by the first of these that applies");
        SmallBoard x = rookGame(1, false, 19);
        due("mate as the 20th quiet move", x.move(35, 5), 0);
        due("ways 1 and 4", x.result(), 1);
        x.undo();
        due("another 20th quiet move", x.move(35, 34), 0);
        due("way 4", x.result(), 4);
        x = rookGame(1, true, 59);
        due("mate as the 60th move", x.move(17, 5), 0);
        due("ways 1 and 5", x.result(), 1);
        x.undo();
        due("another 60th move", x.move(17, 11), 0);
        due("way 5", x.result(), 5);
    }

    private static void noLegalMoveFirst() {
        sentence("It is OVER, by the first of these that applies");
        SmallBoard x = rookGame(1, false, 17);
        play("to row 1", x, 29, 11, 1, 0);
        due("no legal move after the 20th quiet move", x.move(11, 7), 0);
        due("ways 2 and 4", x.result(), 2);
        x = rookGame(1, true, 57);
        play("to row 1", x, 16, 10, 1, 0);
        due("no legal move after the 60th move", x.move(10, 7), 0);
        due("ways 2 and 5", x.result(), 2);
        due("made", x.stop(), 60);
    }

    private static void thirdTimeFirst() {
        sentence("It is OVER, by the first of these that applies");
        SmallBoard x = kingsAfter(12);
        play("to and fro", x, 11, 10, 31, 32, 10, 11, 32, 31, 11, 10, 31, 32, 10, 11, 32, 31);
        due("ways 3 and 4", x.result(), 3);
        x = game(0, 6, 0, 6, 35, 14, 12, 1, 14, 1, 17, 1);
        longGame("52 moves", x, 0, 52, 18, 36, 50);
        play("to and fro", x, 6, 0, 31, 32, 0, 6, 32, 31, 6, 0, 31, 32, 0, 6, 32, 31);
        due("ways 3 and 5", x.result(), 3);
        due("made", x.stop(), 60);
    }

    private static void twentyMovesFirst() {
        sentence("It is OVER, by the first of these that applies");
        SmallBoard x = game(1, 3, 0, 6, 35, 14, 12, 1, 14, 1, 17, 1);
        longGame("20 after a pawn's", x, 1, 60, 19, 39);
        due("ways 4 and 5", x.result(), 4);
        due("made", x.stop(), 60);
    }

    // ---- Moves taken back

    private static void timesTakenBack() {
        sentence("Moves that were taken back are not counted.");
        SmallBoard x = roundsAfter(7);
        for (int i = 0; i < 5; i++) {
            due("third time", x.move(34, 35), 0);
            due("over", x.result(), 3);
            due("undo", x.undo(), 7);
            due("not over", x.result(), 0);
        }
        x = roundsAfter(3);
        for (int i = 0; i < 5; i++) {
            due("second time", x.move(34, 35), 0);
            due("not over", x.result(), 0);
            due("undo", x.undo(), 3);
        }
        due("elsewhere", x.move(34, 28), 0);
        play("back", x, 0, 1, 28, 34, 1, 0, 34, 35);
        // It stood at the beginning, stands now, and five times in between that were taken back.
        boardIs("the first position", x, 0, 6, 35, 14);
        due("not yet the third time", x.result(), 0);
    }

    private static void quietMovesTakenBack() {
        sentence("Moves that were taken back are not counted.");
        SmallBoard x = kingsAfter(15);
        for (int left = 14; left >= 10; left--) {
            due("undo", x.undo(), left);
        }
        // Five others instead of the five taken back, and five more.
        int[] zero = {5, 4, 3, 2, 1, 0};
        int[] one = {30, 24, 18, 12, 13, 19};
        for (int i = 0; i < 4; i++) {
            play("others", x, zero[i], zero[i + 1], one[i], one[i + 1]);
        }
        play("others", x, zero[4], zero[5]);
        due("19 are left", x.result(), 0);
        due("20th", x.move(one[4], one[5]), 0);
        due("20 are left", x.result(), 4);
    }

    private static void manyMovesTakenBack() {
        sentence("Moves that were taken back are not counted.");
        SmallBoard x = pawnsAfter(59);
        for (int i = 0; i < 5; i++) {
            due("60th", x.move(34, 35), 0);
            due("over", x.result(), 5);
            due("undo", x.undo(), 59);
            due("not over", x.result(), 0);
        }
        due("undo", x.undo(), 58);
        due("59th", x.move(2, 3), 0);
        due("59 are left", x.result(), 0);
        due("60th", x.move(34, 33), 0);
        due("60 are left", x.result(), 5);
    }

    // ---- Looking ahead

    private static SmallBoard freshCopyOf(SmallBoard x) {
        SmallBoard fresh = new SmallBoard();
        for (int square = 0; square < 36; square++) {
            int piece = x.pieceAt(square);
            if (piece > 0) {
                fresh.put(square, piece);
            }
        }
        due("begin of the copy", fresh.begin(x.turn()), x.moves());
        due("the copy's game is not over by way 3, 4 or 5", fresh.result() < 3);
        return fresh;
    }

    /** Whether looking ahead answers what it does in a game that begins with this position. */
    private static void aheadIsAsAtBeginning(String what, SmallBoard x) {
        SmallBoard fresh = freshCopyOf(x);
        for (int k = -1; k <= fresh.moves(); k++) {
            due(what + ": moveAt(" + k + ")", x.moveAt(k), fresh.moveAt(k));
        }
        for (int square = 0; square < 36; square++) {
            due(what + ": mobile(" + square + ")", x.mobile(square), fresh.mobile(square));
        }
        for (int depth = 0; depth <= 3; depth++) {
            due(what + ": count(" + depth + ")", x.count(depth), fresh.count(depth));
            due(what + ": value(" + depth + ")", x.value(depth), fresh.value(depth));
            due(what + ": best(" + depth + ")", x.best(depth), fresh.best(depth));
            due(what + ": mate(" + depth + ")", x.mate(depth), fresh.mate(depth));
        }
    }

    private static void aheadKnowsTwoWays() {
        sentence("LOOKING AHEAD knows only of the first two ways of being over.");
        aheadIsAsAtBeginning("over by way 3", roundsAfter(8));
        aheadIsAsAtBeginning("before way 3", roundsAfter(7));
        aheadIsAsAtBeginning("two before way 3", roundsAfter(6));
        aheadIsAsAtBeginning("over by way 4", kingsAfter(20));
        aheadIsAsAtBeginning("before way 4", kingsAfter(19));
        aheadIsAsAtBeginning("two before way 4", kingsAfter(18));
        aheadIsAsAtBeginning("over by way 5", pawnsAfter(60));
        aheadIsAsAtBeginning("before way 5", pawnsAfter(59));
        aheadIsAsAtBeginning("two before way 5", pawnsAfter(58));
    }

    private static void aheadSeesMateWhenOver() {
        sentence("The ways 3, 4 and 5 of being over do not matter to them.");
        SmallBoard x = cornered();
        for (int i = 0; i < 2; i++) {
            play("to and fro", x, 16, 17, 0, 1, 17, 16, 1, 0);
        }
        matesWhenOver(x, 3, 16, 4);
        matesWhenOver(rookGame(0, false, 20), 4, 34, 4);
        matesWhenOver(rookGame(0, true, 60), 5, 23, 5);
    }

    private static void matesWhenOver(SmallBoard x, int way, int from, int to) {
        String what = "over by way " + way + ": ";
        due(what + "result", x.result(), way);
        due(what + "move", x.move(from, to), -2);
        due(what + "mate(1)", x.mate(1), 1);
        due(what + "mate(2)", x.mate(2), 1);
        due(what + "best(2)", x.best(2), 64 * from + to);
        due(what + "value(2)", x.value(2), 1001);
        due(what + "value(3)", x.value(3), 1002);
        due(what + "moves", x.moves() > 10);
        due(what + "moveAt", x.moveAt(0) > 0);
        due(what + "mobile", x.mobile(from) > 4);
        due(what + "count", x.count(1), x.moves());
        aheadIsAsAtBeginning(what, x);
    }

    private static void balance() {
        sentence("The BALANCE is the worth of the pieces of the side to move less that of the other side's: "
            + "pawn 1, knight 3, bishop 3, rook 5, queen 9, king 0.");
        int[] worth = {0, 1, 3, 3, 5, 9};
        due("kings alone", begun(0, 0, 6, 35, 14).value(0), 0);
        // Nothing on 16 or 19 attacks a king on 0 or 35, neither straight, nor aslant, nor as a knight.
        for (int mine = 1; mine <= 5; mine++) {
            due("one of side 0's", begun(0, 0, 6, 35, 14, 19, mine).value(0), worth[mine]);
            due("two of side 0's", begun(0, 0, 6, 35, 14, 19, mine, 16, mine).value(0), 2 * worth[mine]);
            for (int other = 1; other <= 5; other++) {
                SmallBoard x = with(0, 6, 35, 14, 19, mine, 16, other + 8);
                x.begin(0);
                due("side 0 to move, " + mine + " and " + other, x.value(0), worth[mine] - worth[other]);
                x.stop();
                x.begin(1);
                due("side 1 to move, " + mine + " and " + other, x.value(0), worth[other] - worth[mine]);
            }
        }
        for (int square = 0; square < 36; square++) {
            due("knight on " + square, amongKings(0, -1, square, 2).value(0), 3);
            due("knight of side 1 on " + square, amongKings(0, -1, square, 10).value(0), -3);
        }
        due("most", begun(0, 0, 6, 35, 14, 19, 5, 16, 5, 20, 5, 15, 5).value(0), 36);
        due("least", begun(1, 0, 6, 35, 14, 19, 5, 16, 5).value(0), -18);
    }

    private static void valueWithDepthNone() {
        sentence("The VALUE of a position with depth 0 is its balance.");
        due("mated", mated().value(0), -9);
        due("no legal move", stalemated().value(0), -9);
        due("a capture is at hand", begun(0, 0, 6, 35, 14, 7, 13).value(0), -9);
    }

    private static void valueOfEnds() {
        sentence("if the side to move has no legal move, -1000 - d if it is in check, else 0");
        for (int depth = 1; depth <= 3; depth++) {
            due("mated, depth " + depth, mated().value(depth), -1000 - depth);
            due("no legal move, depth " + depth, stalemated().value(depth), 0);
        }
        SmallBoard x = cornered();
        due("mate is beyond depth 1", x.value(1), 5);
        due("mate is the last that depth 2 sees", x.value(2), 1001);
        due("mate with depth 3", x.value(3), 1002);
        // King 1 must go to 0, where the rook mates on 2.
        x = game(1, 1, 1, 14, 13, 6, 14, 4);
        due("mated next, depth 1", x.value(1), -5);
        due("mated next, depth 2", x.value(2), -5);
        due("mated next, depth 3", x.value(3), -1001);
        // To take the bishop leaves side 1 without a move, and yet side 0 has nothing better.
        x = begun(0, 6, 1, 7, 4, 10, 11, 12, 14, 25, 6);
        due("no move is left, depth 2", x.value(2), 0);
        due("best of it", x.best(2), 458);
        // King 1 must leave its pawn alone or leave king 0 without a move, so king 0 goes ahead of the pawn.
        for (int side = 0; side < 2; side++) {
            x = begunBy(side, 1, 6, 8, 9, 13, 14);
            values("no move is left to its own side", x, -1, -1, -1, 0);
            due("best of it", x.best(3), 64 * seenBy(side, 1) + seenBy(side, 2));
        }
    }

    private static void valueIsGreatest() {
        sentence("if it has one, the greatest of the numbers -v, "
            + "v being the values with depth d - 1 of the positions after its legal moves");
        // The rook on 16 can take the knight on 14, which the pawn on 19 guards.
        SmallBoard x = game(0, 9, 0, 6, 35, 14, 16, 4, 14, 10, 19, 9);
        due("depth 1 takes the knight", x.value(1), 5 - 1);
        due("depth 2 does not", x.value(2), 5 - 4);
        // A king alone next to a rook that nothing guards.
        x = game(1, 1, 0, 14, 7, 4, 35, 6);
        due("depth 1 takes the rook", x.value(1), 0);
        // A pawn that becomes a queen.
        x = game(0, 4, 0, 6, 35, 14, 24, 1);
        due("depth 1 makes a queen", x.value(1), 9);
    }

    private static void values(String what, SmallBoard x, int... byDepth) {
        for (int depth = 0; depth < byDepth.length; depth++) {
            due(what + ": value(" + depth + ")", x.value(depth), byDepth[depth]);
        }
    }

    private static void counts(String what, SmallBoard x, int... byDepth) {
        for (int depth = 0; depth < byDepth.length; depth++) {
            due(what + ": count(" + depth + ")", x.count(depth), byDepth[depth]);
        }
    }

    private static void queensAhead() {
        sentence("A pawn that comes to row 5 (side 0) or row 0 (side 1) becomes a queen of its side.");
        for (int side = 0; side < 2; side++) {
            String what = "side " + side + " to move, ";
            values(what + "a queen by its first move", begunBy(side, 0, 6, 35, 14, 24, 1), 1, 9, 9);
            SmallBoard x = begunBy(side, 0, 6, 35, 14, 18, 1);
            values(what + "a queen by its second move", x, 1, 1, 1, 9);
            due(what + "best(3)", x.best(3), 64 * seenBy(side, 18) + seenBy(side, 24));
            values(what + "a queen by the answer", begunBy(side, 24, 6, 34, 14, 11, 9), -1, -1, -9, -9);
            // The new queen gives check, which leaves fewer answers and has more moves of its own.
            counts(what + "a queen by its first move", begunBy(side, 5, 6, 9, 14, 27, 1), 1, 2, 9, 96);
            counts(what + "a queen by the answer", begunBy(side, 16, 6, 4, 14, 8, 9), 1, 5, 26, 132);
        }
    }

    private static void queensInMates() {
        sentence("A pawn that comes to row 5 (side 0) or row 0 (side 1) becomes a queen of its side.");
        for (int side = 0; side < 2; side++) {
            // A queen on 31 drives the king from 0 to 6, and the next one on 30 mates it there.
            SmallBoard x = begunBy(side, 0, 14, 24, 1, 25, 1, 28, 6);
            due("not yet in one", x.mate(1), 0);
            due("two queens mate", x.mate(2), 1);
            x = begunBy(side, 6, 4, 14, 9, 21, 6, 35, 14);
            due("the pawn on 14 can't help its king", x.mate(2), 1);
            x = begunBy(side, 6, 4, 8, 9, 21, 6, 35, 14);
            due("the pawn on 8 becomes a queen and can", x.mate(2), 0);
        }
    }

    public static void main(String[] args) {
        sidesMoveByTurns();
        mate();
        checkAlone();
        noLegalMove();
        thirdTime();
        thirdTimeAfterRoundsOfAnyLength();
        beginningCounts();
        thirdTimeOfOtherGame();
        otherSideToMove();
        samePieces();
        piecesOfTheSameSide();
        otherOnOneSquare();
        twentyMoves();
        twentyMovesOfOtherGame();
        captureStartsAnew();
        captureTakenBack();
        pawnStartsAnew();
        pawnTakenBack();
        queeningStartsAnew();
        sixtyMoves();
        mateFirst();
        noLegalMoveFirst();
        thirdTimeFirst();
        twentyMovesFirst();
        timesTakenBack();
        quietMovesTakenBack();
        manyMovesTakenBack();
        aheadKnowsTwoWays();
        aheadSeesMateWhenOver();
        balance();
        valueWithDepthNone();
        valueOfEnds();
        valueIsGreatest();
        queensAhead();
        queensInMates();
        end();
    }
}
