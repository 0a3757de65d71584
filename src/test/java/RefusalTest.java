import java.util.ArrayList;
import java.util.List;
import java.util.function.Supplier;
import java.util.function.ToIntFunction;

/**
 * What a call must leave alone. An object that heard the call is compared with a twin that did not: in all
 * that can be asked now, in a further move, and in all that is left when every move is taken back.
 */
public final class RefusalTest extends Checks {
    /** A state with a further move that tells much about what came before it. */
    private static final class State {
        final String name;
        final Supplier<SmallBoard> maker;
        final int from;
        final int to;

        State(String name, int from, int to, Supplier<SmallBoard> maker) {
            this.name = name;
            this.from = from;
            this.to = to;
            this.maker = maker;
        }
    }

    /** A capture, a check, a pawn that became a queen, and a check by it. */
    private static SmallBoard middleGame() {
        SmallBoard x = begun(0, 0, 6, 35, 14, 24, 1, 13, 4, 17, 10, 8, 9);
        due("middle game: rook takes knight", x.move(13, 17), 10);
        play("middle game", x, 35, 34, 0, 6, 8, 2, 17, 11, 2, 8);
        return x;
    }

    private static SmallBoard stopped() {
        SmallBoard x = roundsAfter(6);
        x.stop();
        return x;
    }

    private static SmallBoard takenBack() {
        SmallBoard x = kingsAfter(6);
        for (int i = 0; i < 6; i++) {
            x.undo();
        }
        return x;
    }

    private static final State[] WITHOUT_GAME = {
        new State("new", 0, 1, SmallBoard::new),
        new State("set up", 0, 1, () -> with(0, 6, 35, 14, 14, 4)),
        new State("six pieces", 0, 1, () -> with(0, 6, 35, 14, 14, 4, 6, 1, 29, 9, 21, 12)),
        new State("a king is missing", 0, 1, () -> with(0, 6, 14, 4)),
        new State("side 1 is in check", 35, 34, () -> with(0, 6, 35, 14, 5, 4)),
        new State("stopped", 0, 1, RefusalTest::stopped),
        new State("stopped when over", 0, 1, () -> {
            SmallBoard x = over(3);
            x.stop();
            return x;
        }),
    };

    private static final State[] IN_GAME = {
        new State("begun", 0, 1, () -> game(0, 3, 0, 6, 35, 14)),
        new State("begun by side 1", 35, 34, () -> game(1, 3, 0, 6, 35, 14)),
        new State("all taken back", 0, 1, RefusalTest::takenBack),
        new State("in the middle", 11, 8, RefusalTest::middleGame),
        new State("before a mate", 16, 4, Checks::cornered),
        new State("before the third time", 34, 35, () -> roundsAfter(7)),
        new State("after the second time", 0, 1, () -> roundsAfter(4)),
        new State("before the 20th quiet move", 34, 35, () -> kingsAfter(19)),
        new State("before the 60th move", 34, 35, () -> pawnsAfter(59)),
    };

    private static final State[] WHEN_OVER = {
        new State("over by 1", 0, 1, () -> over(1)),
        new State("over by 2", 0, 1, () -> over(2)),
        new State("over by 3", 0, 1, () -> over(3)),
        new State("over by 4", 7, 6, () -> over(4)),
        new State("over by 5", 3, 4, () -> over(5)),
        new State("begun when mated", 0, 1, Checks::mated),
        new State("begun without a legal move", 0, 1, Checks::stalemated),
    };

    /** The answers to all that can be asked of an object now. */
    private static void addAnswers(SmallBoard x, List<Integer> answers) {
        for (int square = 0; square < 36; square++) {
            answers.add(x.pieceAt(square));
        }
        answers.add(x.turn());
        answers.add(x.result());
        answers.add(x.check());
        answers.add(x.attackers(14, 0));
        answers.add(x.attackers(14, 1));
        answers.add(x.moves());
        answers.add(x.moveAt(0));
        answers.add(x.mobile(0));
        answers.add(x.count(2));
        answers.add(x.value(2));
        answers.add(x.best(2));
        answers.add(x.mate(1));
    }

    /** What an object answers in all that may follow: it tells what the object holds. */
    private static List<Integer> future(SmallBoard x, State state) {
        List<Integer> answers = new ArrayList<>();
        addAnswers(x, answers);
        answers.add(x.move(state.from, state.to));
        answers.add(x.result());
        int left = 61;
        while (left > 0) {
            left = x.undo();
            answers.add(left);
            answers.add(x.turn());
            answers.add(x.result());
        }
        addAnswers(x, answers);
        answers.add(x.stop());
        answers.add(x.begin(0));
        answers.add(x.begin(1));
        answers.add(x.stop());
        answers.add(x.put(14, 2));
        answers.add(x.clear());
        return answers;
    }

    private static void same(String what, SmallBoard x, SmallBoard twin, State state) {
        List<Integer> got = future(x, state);
        List<Integer> want = future(twin, state);
        due(what + ": answers", got.size(), want.size());
        for (int i = 0; i < got.size() && i < want.size(); i++) {
            due(what + ": answer " + i + " after it", got.get(i), want.get(i));
        }
    }

    private static void refused(State[] states, String call, int want, ToIntFunction<SmallBoard> on) {
        for (State state : states) {
            String what = state.name + ", " + call;
            SmallBoard x = state.maker.get();
            for (int i = 0; i < 3; i++) {
                due(what, on.applyAsInt(x), want);
            }
            same(what, x, state.maker.get(), state);
        }
    }

    private static void asked(State[] states, String call, ToIntFunction<SmallBoard> on) {
        for (State state : states) {
            String what = state.name + ", " + call;
            SmallBoard x = state.maker.get();
            int first = on.applyAsInt(x);
            due(what + " again", on.applyAsInt(x), first);
            due(what + " once more", on.applyAsInt(x), first);
            same(what, x, state.maker.get(), state);
        }
    }

    private static State[] only(State[] states, int... which) {
        State[] some = new State[which.length];
        for (int i = 0; i < which.length; i++) {
            some[i] = states[which[i]];
        }
        return some;
    }

    private static void refusedWithoutGame() {
        sentence("A refused call changes nothing.");
        State[] all = WITHOUT_GAME;
        refused(all, "put(-1, 6)", -1, x -> x.put(-1, 6));
        refused(all, "put(36, 0)", -1, x -> x.put(36, 0));
        refused(all, "put(0, 7)", -2, x -> x.put(0, 7));
        refused(all, "put(0, 15)", -2, x -> x.put(0, 15));
        refused(all, "put(0, -1)", -2, x -> x.put(0, -1));
        refused(all, "put(0, 1)", -4, x -> x.put(0, 1));
        refused(all, "put(35, 9)", -4, x -> x.put(35, 9));
        refused(all, "begin(-1)", -2, x -> x.begin(-1));
        refused(all, "begin(2)", -2, x -> x.begin(2));
        refused(all, "stop()", -1, x -> x.stop());
        refused(all, "move(0, 1)", -1, x -> x.move(0, 1));
        refused(all, "undo()", -1, x -> x.undo());
        refused(only(all, 2), "put(13, 2)", -5, x -> x.put(13, 2));
        refused(only(all, 0, 3), "begin(0)", -3, x -> x.begin(0));
        refused(only(all, 0, 3), "begin(1)", -3, x -> x.begin(1));
        refused(only(all, 4), "begin(0)", -4, x -> x.begin(0));
    }

    private static void refusedAsAskedWithoutGame() {
        sentence("For the calls below: -1 if no game is going on (for value: -5000).");
        State[] all = WITHOUT_GAME;
        refused(all, "moves()", -1, x -> x.moves());
        refused(all, "moveAt(0)", -1, x -> x.moveAt(0));
        refused(all, "mobile(0)", -1, x -> x.mobile(0));
        refused(all, "count(0)", -1, x -> x.count(0));
        refused(all, "count(3)", -1, x -> x.count(3));
        refused(all, "value(0)", -5000, x -> x.value(0));
        refused(all, "value(3)", -5000, x -> x.value(3));
        refused(all, "best(3)", -1, x -> x.best(3));
        refused(all, "mate(2)", -1, x -> x.mate(2));
    }

    private static void refusedInGame(State[] all) {
        sentence("A refused call changes nothing.");
        refused(all, "put(36, 6)", -1, x -> x.put(36, 6));
        refused(all, "put(0, 8)", -2, x -> x.put(0, 8));
        refused(all, "put(14, 2)", -3, x -> x.put(14, 2));
        refused(all, "put(0, 0)", -3, x -> x.put(0, 0));
        refused(all, "put(3, 1)", -3, x -> x.put(3, 1));
        refused(all, "clear()", -1, x -> x.clear());
        refused(all, "begin(0)", -1, x -> x.begin(0));
        refused(all, "begin(1)", -1, x -> x.begin(1));
        refused(all, "begin(2)", -1, x -> x.begin(2));
        refused(all, "moveAt(-1)", -2, x -> x.moveAt(-1));
        refused(all, "moveAt(100)", -2, x -> x.moveAt(100));
        refused(all, "mobile(36)", 0, x -> x.mobile(36));
        refused(all, "count(-1)", -2, x -> x.count(-1));
        refused(all, "count(4)", -2, x -> x.count(4));
        refused(all, "value(-1)", -4000, x -> x.value(-1));
        refused(all, "value(4)", -4000, x -> x.value(4));
        refused(all, "best(0)", -2, x -> x.best(0));
        refused(all, "best(4)", -2, x -> x.best(4));
        refused(all, "mate(0)", -2, x -> x.mate(0));
        refused(all, "mate(3)", -2, x -> x.mate(3));
    }

    private static void refusedMoves() {
        sentence("A refused call changes nothing.");
        refused(IN_GAME, "move(0, 0)", -3, x -> x.move(0, 0));
        refused(IN_GAME, "move(36, 1)", -3, x -> x.move(36, 1));
        refused(IN_GAME, "move(0, -1)", -3, x -> x.move(0, -1));
        refused(IN_GAME, "move(20, 32)", -3, x -> x.move(20, 32));
        refused(only(IN_GAME, 3), "a king that stays in check", -3, x -> x.move(6, 7));
        refused(only(IN_GAME, 3), "a rook that leaves it in check", -3, x -> x.move(11, 5));
        refused(WHEN_OVER, "move(0, 1)", -2, x -> x.move(0, 1));
        refused(WHEN_OVER, "move(36, 1)", -2, x -> x.move(36, 1));
        refused(only(IN_GAME, 0, 1, 2), "undo()", -2, x -> x.undo());
        refused(only(WHEN_OVER, 5, 6), "undo()", -2, x -> x.undo());
        for (int depth = 1; depth <= 3; depth++) {
            int d = depth;
            refused(only(WHEN_OVER, 0, 1, 5, 6), "best(" + d + ")", -3, x -> x.best(d));
        }
    }

    private static void askingChangesNothing(State[] all) {
        sentence("The calls below change nothing.");
        asked(all, "result()", x -> x.result());
        asked(all, "turn()", x -> x.turn());
        asked(all, "check()", x -> x.check());
        for (int square : new int[] {-1, 0, 14, 35, 36}) {
            asked(all, "pieceAt(" + square + ")", x -> x.pieceAt(square));
            asked(all, "attackers(" + square + ", 0)", x -> x.attackers(square, 0));
            asked(all, "attackers(" + square + ", 1)", x -> x.attackers(square, 1));
            asked(all, "attackers(" + square + ", 2)", x -> x.attackers(square, 2));
        }
    }

    private static void lookingAheadChangesNothing(State[] all) {
        sentence("The calls below change nothing.");
        asked(all, "moves()", x -> x.moves());
        for (int number = 0; number <= 3; number++) {
            int n = number;
            asked(all, "moveAt(" + n + ")", x -> x.moveAt(n));
            asked(all, "mobile(" + n + ")", x -> x.mobile(n));
            asked(all, "count(" + n + ")", x -> x.count(n));
            asked(all, "value(" + n + ")", x -> x.value(n));
            asked(all, "best(" + n + ")", x -> x.best(n));
            asked(all, "mate(" + n + ")", x -> x.mate(n));
        }
    }

    /** Each legal move of each state is made and taken back. */
    private static void undoChangesAllBack() {
        sentence("Takes the latest move back (also when the game is over; all is as before it was made).");
        for (State state : IN_GAME) {
            int legal = state.maker.get().moves();
            due(state.name + " has legal moves", legal > 0);
            for (int k = 0; k < legal; k++) {
                SmallBoard x = state.maker.get();
                int number = x.moveAt(k);
                due("move " + number, x.move(number / 64, number % 64) >= 0);
                due("undo", x.undo() >= 0);
                same(state.name + ", move " + number + " and undo", x, state.maker.get(), state);
            }
        }
    }

    /** Rule 7 of LANGUAGE.md: a call that throws would end this test. */
    private static void anyNumbersInAnyState(State[] all) {
        sentence("No call may ever throw or fail to end, for any arguments in any state");
        for (State state : all) {
            for (int a : ANY_NUMBERS) {
                SmallBoard x = state.maker.get();
                for (int b : ANY_NUMBERS) {
                    due("attackers(" + a + ", " + b + ")", x.attackers(a, b) >= -1);
                    due("move(" + a + ", " + b + ")", x.move(a, b) >= -3);
                    due("put(" + a + ", " + b + ")", x.put(a, b) >= -5);
                }
                due("pieceAt(" + a + ")", x.pieceAt(a) >= -1);
                due("moveAt(" + a + ")", x.moveAt(a) >= -2);
                due("mobile(" + a + ")", x.mobile(a) >= -1);
                due("count(" + a + ")", x.count(a) >= -2);
                due("value(" + a + ")", x.value(a) >= -5000);
                due("best(" + a + ")", x.best(a) >= -3);
                due("mate(" + a + ")", x.mate(a) >= -2);
                due("begin(" + a + ")", x.begin(a) >= -4);
            }
        }
    }

    public static void main(String[] args) {
        refusedWithoutGame();
        refusedAsAskedWithoutGame();
        refusedInGame(IN_GAME);
        refusedInGame(WHEN_OVER);
        refusedMoves();
        askingChangesNothing(WITHOUT_GAME);
        askingChangesNothing(IN_GAME);
        askingChangesNothing(WHEN_OVER);
        lookingAheadChangesNothing(WITHOUT_GAME);
        lookingAheadChangesNothing(IN_GAME);
        lookingAheadChangesNothing(WHEN_OVER);
        undoChangesAllBack();
        anyNumbersInAnyState(WITHOUT_GAME);
        anyNumbersInAnyState(IN_GAME);
        anyNumbersInAnyState(WHEN_OVER);
        end();
    }
}
