import java.util.ArrayList;
import java.util.Arrays;
import java.util.List;
import java.util.Random;

/** Compares long runs of calls with a second program, written from the document in another way. */
public final class ModelTest {
    private static final int RUNS = 3000;
    // An object answers 512 calls; the last step and the look at the whole board need some of them.
    private static final int CALLS = 450;
    private static final int MOST_TOLD = 20;

    /** A board with a side to move; it never changes. */
    private static final class Position {
        final int[] cells;
        final int side;

        Position(int[] cells, int side) {
            this.cells = cells.clone();
            this.side = side;
        }

        boolean same(Position other) {
            return side == other.side && Arrays.equals(cells, other.cells);
        }

        static int sideOf(int piece) {
            return piece == 0 ? -1 : piece < 8 ? 0 : 1;
        }

        boolean[] attackedFrom(int from) {
            boolean[] attacked = new boolean[36];
            int piece = cells[from];
            int kind = piece > 8 ? piece - 8 : piece;
            for (int dr = -2; dr <= 2; dr++) {
                for (int dc = -2; dc <= 2; dc++) {
                    int big = Math.max(Math.abs(dr), Math.abs(dc));
                    int sum = Math.abs(dr) + Math.abs(dc);
                    int ahead = sideOf(piece) == 0 ? 1 : -1;
                    boolean steps = kind == 6 && big == 1
                        || kind == 2 && sum == 3
                        || kind == 1 && dr == ahead && Math.abs(dc) == 1;
                    boolean slides = big == 1 && (sum == 1 ? kind == 4 || kind == 5 : kind == 3 || kind == 5);
                    if (steps || slides) {
                        walk(from, dr, dc, slides, attacked);
                    }
                }
            }
            return attacked;
        }

        private void walk(int from, int dr, int dc, boolean on, boolean[] attacked) {
            int row = from / 6 + dr;
            int column = from % 6 + dc;
            while (row >= 0 && row < 6 && column >= 0 && column < 6) {
                attacked[6 * row + column] = true;
                if (!on || cells[6 * row + column] != 0) {
                    return;
                }
                row += dr;
                column += dc;
            }
        }

        int attackers(int square, int by) {
            int n = 0;
            for (int from = 0; from < 36; from++) {
                if (sideOf(cells[from]) == by && attackedFrom(from)[square]) {
                    n++;
                }
            }
            return n;
        }

        boolean inCheck(int of) {
            for (int square = 0; square < 36; square++) {
                if (cells[square] == 6 + 8 * of && attackers(square, 1 - of) > 0) {
                    return true;
                }
            }
            return false;
        }

        Position after(int move) {
            int[] next = cells.clone();
            int piece = next[move / 64];
            int row = move % 64 / 6;
            next[move / 64] = 0;
            next[move % 64] = piece == 1 && row == 5 ? 5 : piece == 9 && row == 0 ? 13 : piece;
            return new Position(next, 1 - side);
        }

        List<Integer> legal() {
            List<Integer> found = new ArrayList<>();
            for (int from = 0; from < 36; from++) {
                if (sideOf(cells[from]) != side) {
                    continue;
                }
                boolean[] targets = attackedFrom(from);
                boolean pawn = cells[from] == 1 || cells[from] == 9;
                for (int to = 0; to < 36; to++) {
                    boolean reaches = targets[to] && sideOf(cells[to]) != side && (!pawn || cells[to] != 0);
                    boolean advances = pawn && cells[to] == 0 && to == from + (side == 0 ? 6 : -6);
                    if ((reaches || advances) && !after(64 * from + to).inCheck(side)) {
                        found.add(64 * from + to);
                    }
                }
            }
            return found;
        }

        int count(int depth) {
            int n = 0;
            if (depth == 0) {
                return 1;
            }
            for (int move : legal()) {
                n += after(move).count(depth - 1);
            }
            return n;
        }

        int value(int depth) {
            if (depth == 0) {
                return balance();
            }
            List<Integer> moves = legal();
            if (moves.isEmpty()) {
                return inCheck(side) ? -1000 - depth : 0;
            }
            int top = Integer.MIN_VALUE;
            for (int move : moves) {
                top = Math.max(top, -after(move).value(depth - 1));
            }
            return top;
        }

        private int balance() {
            int[] worth = {0, 1, 3, 3, 5, 9, 0};
            int sum = 0;
            for (int piece : cells) {
                sum += piece == 0 ? 0 : sideOf(piece) == side ? worth[piece % 8] : -worth[piece % 8];
            }
            return sum;
        }

        int best(int depth) {
            int least = Integer.MAX_VALUE;
            int best = -3;
            for (int move : legal()) {
                int value = after(move).value(depth - 1);
                if (value < least) {
                    least = value;
                    best = move;
                }
            }
            return best;
        }

        boolean mates(int n) {
            for (int move : legal()) {
                if (after(move).isLost(n - 1)) {
                    return true;
                }
            }
            return false;
        }

        private boolean isLost(int movesLeft) {
            List<Integer> answers = legal();
            if (answers.isEmpty()) {
                return inCheck(side);
            }
            if (movesLeft == 0) {
                return false;
            }
            for (int answer : answers) {
                if (!after(answer).mates(movesLeft)) {
                    return false;
                }
            }
            return true;
        }
    }

    /** The calls of the document; the game is the list of its positions. */
    private static final class Model {
        private int[] cells = new int[36];
        private final List<Position> game = new ArrayList<>();
        private final List<Boolean> quiet = new ArrayList<>();

        private boolean going() {
            return !game.isEmpty();
        }

        private Position now() {
            return going() ? game.get(game.size() - 1) : new Position(cells, 0);
        }

        private int pieces(int low, int high) {
            int n = 0;
            for (int piece : now().cells) {
                n += piece >= low && piece <= high ? 1 : 0;
            }
            return n;
        }

        int put(int square, int piece) {
            if (square < 0 || square > 35) return -1;
            if (piece < 0 || piece > 14 || piece == 7 || piece == 8) return -2;
            if (going()) return -3;
            if ((piece == 1 || piece == 9) && (square / 6 == 0 || square / 6 == 5)) return -4;
            if (piece != 0 && cells[square] == 0 && pieces(1, 14) == 6) return -5;
            int before = cells[square];
            cells[square] = piece;
            return before;
        }

        int clear() {
            if (going()) return -1;
            int n = pieces(1, 14);
            cells = new int[36];
            return n;
        }

        int begin(int side) {
            if (going()) return -1;
            if (side != 0 && side != 1) return -2;
            if (pieces(6, 6) != 1 || pieces(14, 14) != 1) return -3;
            Position first = new Position(cells, side);
            if (first.inCheck(1 - side)) return -4;
            game.add(first);
            return first.legal().size();
        }

        int stop() {
            if (!going()) return -1;
            cells = now().cells.clone();
            int n = quiet.size();
            game.clear();
            quiet.clear();
            return n;
        }

        int move(int from, int to) {
            if (!going()) return -1;
            if (result() != 0) return -2;
            if (from < 0 || from > 35 || to < 0 || to > 35 || !now().legal().contains(64 * from + to)) return -3;
            int piece = now().cells[from];
            int captured = now().cells[to];
            quiet.add(captured == 0 && piece != 1 && piece != 9);
            game.add(now().after(64 * from + to));
            return captured;
        }

        int undo() {
            if (!going()) return -1;
            if (quiet.isEmpty()) return -2;
            game.remove(game.size() - 1);
            quiet.remove(quiet.size() - 1);
            return quiet.size();
        }

        int result() {
            if (!going()) return -1;
            if (now().legal().isEmpty()) return now().inCheck(now().side) ? 1 : 2;
            int times = 0;
            for (Position position : game) {
                times += position.same(now()) ? 1 : 0;
            }
            if (times >= 3) return 3;
            if (quiet.size() - 1 - quiet.lastIndexOf(false) >= 20) return 4;
            return quiet.size() >= 60 ? 5 : 0;
        }

        int pieceAt(int square) {
            return square < 0 || square > 35 ? -1 : now().cells[square];
        }

        int turn() {
            return going() ? now().side : -1;
        }

        int check() {
            return !going() ? -1 : now().inCheck(now().side) ? 1 : 0;
        }

        int attackers(int square, int side) {
            return square < 0 || square > 35 || side != 0 && side != 1 ? -1 : now().attackers(square, side);
        }

        int moves() {
            return going() ? now().legal().size() : -1;
        }

        int moveAt(int k) {
            if (!going()) return -1;
            List<Integer> legal = now().legal();
            return k < 0 || k >= legal.size() ? -2 : legal.get(k);
        }

        int mobile(int square) {
            if (!going()) return -1;
            int n = 0;
            for (int move : now().legal()) {
                n += move / 64 == square ? 1 : 0;
            }
            return n;
        }

        int count(int depth) {
            return !going() ? -1 : depth < 0 || depth > 3 ? -2 : now().count(depth);
        }

        int value(int depth) {
            return !going() ? -5000 : depth < 0 || depth > 3 ? -4000 : now().value(depth);
        }

        int best(int depth) {
            return !going() ? -1 : depth < 1 || depth > 3 ? -2 : now().best(depth);
        }

        int mate(int n) {
            return !going() ? -1 : n < 1 || n > 2 ? -2 : now().mates(n) ? 1 : 0;
        }
    }

    private static int wrong = 0;
    private static final int[] SEEN_RESULTS = new int[7];
    private static int seenMates = 0;

    private final int run;
    private final Random random;
    private final SmallBoard board = new SmallBoard();
    private int calls = 0;
    private final Model model = new Model();
    // Deep calls of the model are slow, so most runs have few of them.
    private final int deepShare;
    private final int undoShare;

    private ModelTest(int run) {
        this.run = run;
        this.random = new Random(run);
        this.deepShare = run % 10 == 0 ? 10 : 3;
        this.undoShare = run % 3 == 0 ? 2 : 12;
    }

    private int same(String call, int got, int want) {
        calls++;
        if (got != want && wrong++ < MOST_TOLD) {
            System.out.println("run " + run + ": " + call + " answered " + got + ", the model " + want);
        }
        return want;
    }

    private int near(int low, int high) {
        int[] far = {Integer.MIN_VALUE, Integer.MAX_VALUE, -1, -64, 64, 100};
        if (random.nextInt(25) == 0) {
            return far[random.nextInt(far.length)];
        }
        return low + random.nextInt(high - low + 1);
    }

    private void put(int square, int piece) {
        same("put(" + square + ", " + piece + ")", board.put(square, piece), model.put(square, piece));
    }

    private void setUp() {
        same("clear()", board.clear(), model.clear());
        // A king in a corner against queens and rooks is mated more often than chance would have it.
        boolean hunt = random.nextInt(3) == 0;
        int hunted = random.nextInt(2);
        put(random.nextInt(36), 14 - 8 * hunted);
        put(hunt ? 35 : random.nextInt(36), 6 + 8 * hunted);
        int more = random.nextInt(6);
        for (int i = 0; i < more; i++) {
            int piece = hunt ? 4 + random.nextInt(2) + 8 * (1 - hunted) : near(0, 15);
            put(near(0, 35), piece);
        }
        int side = near(0, 1);
        same("begin(" + side + ")", board.begin(side), model.begin(side));
    }

    private void makeMove() {
        int legal = model.moves();
        // Small choices out of the legal moves let positions come back.
        int bound = random.nextInt(3) == 0 ? legal : Math.min(legal, 2);
        int number = legal > 0 ? model.moveAt(random.nextInt(bound)) : 0;
        int from = random.nextInt(20) == 0 ? near(0, 35) : number / 64;
        int to = random.nextInt(20) == 0 ? near(0, 35) : number % 64;
        same("move(" + from + ", " + to + ")", board.move(from, to), model.move(from, to));
        int result = same("result()", board.result(), model.result());
        SEEN_RESULTS[Math.max(result, 0)]++;
    }

    private void ask() {
        int square = near(-1, 36);
        int side = near(0, 1);
        int k = near(-1, 30);
        same("pieceAt(" + square + ")", board.pieceAt(square), model.pieceAt(square));
        same("turn()", board.turn(), model.turn());
        same("check()", board.check(), model.check());
        same("attackers(" + square + ", " + side + ")", board.attackers(square, side), model.attackers(square, side));
        same("moves()", board.moves(), model.moves());
        same("moveAt(" + k + ")", board.moveAt(k), model.moveAt(k));
        same("mobile(" + square + ")", board.mobile(square), model.mobile(square));
    }

    private void lookAhead() {
        int most = random.nextInt(4) == 0 ? 4 : 2;
        int depth = near(-1, most);
        same("count(" + depth + ")", board.count(depth), model.count(depth));
        same("value(" + depth + ")", board.value(depth), model.value(depth));
        same("best(" + depth + ")", board.best(depth), model.best(depth));
        int n = near(0, 3);
        int mates = same("mate(" + n + ")", board.mate(n), model.mate(n));
        seenMates += mates == 1 ? 1 : 0;
    }

    private void step() {
        int choice = random.nextInt(100);
        if (model.result() > 0 && choice < 30) {
            same("stop()", board.stop(), model.stop());
        } else if (!model.going() && choice < 70 || choice == 99) {
            setUp();
        } else if (choice < deepShare) {
            lookAhead();
        } else if (choice < 12) {
            ask();
        } else if (choice < 12 + undoShare) {
            same("undo()", board.undo(), model.undo());
        } else if (choice == 98) {
            same("stop()", board.stop(), model.stop());
        } else if (choice > 95) {
            put(near(0, 35), near(0, 15));
        } else {
            makeMove();
        }
    }

    private void compareBoards() {
        for (int square = 0; square < 36; square++) {
            same("pieceAt(" + square + ")", board.pieceAt(square), model.pieceAt(square));
        }
    }

    public static void main(String[] args) {
        for (int run = 0; run < RUNS && wrong == 0; run++) {
            ModelTest test = new ModelTest(run);
            while (test.calls < CALLS) {
                test.step();
            }
            test.compareBoards();
        }
        System.out.println("results seen: " + Arrays.toString(SEEN_RESULTS) + ", mates foreseen: " + seenMates);
        for (int result = 1; result <= 5; result++) {
            if (SEEN_RESULTS[result] == 0) {
                wrong++;
                System.out.println("no game was over by way " + result);
            }
        }
        System.out.println(wrong == 0 ? "all answers are as due" : wrong + " answers are not as due");
        if (wrong != 0) {
            System.exit(1);
        }
    }
}
