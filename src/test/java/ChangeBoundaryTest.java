import java.math.BigInteger;
import java.util.ArrayList;
import java.util.List;

/** The boundary cases of the promises 26 to 37, which change, undo, save and sum up, sentence by sentence. */
public final class ChangeBoundaryTest {
    private static final String BAD = "throws IllegalArgumentException";
    private static final String NO_INDEX = "throws IndexOutOfBoundsException";
    private static final String NO_STATE = "throws IllegalStateException";
    private static final int[] NO_PIECES = {Integer.MIN_VALUE, -1, 7, 8, Integer.MAX_VALUE};
    private static final int[] NO_SHAPES = {Integer.MIN_VALUE, -1, 8, 9, Integer.MAX_VALUE};
    private static final int[] NO_TURNS = {Integer.MIN_VALUE, -1, 4, 8, Integer.MAX_VALUE};
    private static final int[] NO_SLOTS = {Integer.MIN_VALUE, -1, 2, 3, Integer.MAX_VALUE};

    private static final String SQUARE = "board 4 4; shape 0 0 e 4 s 4 w 4 n 4;";
    /** The pieces of the square, filled in the first way: x, y, turn and flip of each. */
    private static final int[][] WAY = {{0, 0, 0, 0}, {0, 0, 3, 0}, {2, 2, 1, 1}, {1, 2, 0, 0}, {3, 0, 1, 0},
        {2, 1, 1, 0}, {0, 3, 2, 0}};

    private final Checks checks = new Checks();
    /** What was held ahead of each change that can be undone: of the latest eight. */
    private final List<String> past = new ArrayList<>();

    /** A call on an object. */
    interface Use {
        Object on(TangramBoard b);
    }

    public static void main(String[] args) {
        ChangeBoundaryTest test = new ChangeBoundaryTest();
        test.placeAtTheRims();
        test.placeAllPieces();
        test.placeWrongly();
        test.takeOff();
        test.turn();
        test.flip();
        test.shift();
        test.shiftFar();
        test.keep();
        test.remove();
        test.solve();
        test.undoEightChanges();
        test.undoAndGoOn();
        test.undoOfEachChange();
        test.saveSnapshot();
        test.restoreSnapshot();
        test.snapshotsAndUndo();
        test.emptyAndFullSnapshots();
        test.checksum();
        test.manyCalls();
        test.checks.end();
    }

    /** A change: it can be undone. */
    private void change(String what, TangramBoard b, Object answer, Use use) {
        past.add(Whole.held(b));
        if (past.size() > 8) {
            past.remove(0);
        }
        int changes = b.size(9);
        checks.due(what, Checks.answerOf(() -> use.on(b)), answer);
        checks.due(what + " is a change", b.size(9), Math.min(8, changes + 1));
    }

    /** A call that is refused, or throws, or does not change: nothing is altered by it. */
    private void nothing(String what, TangramBoard b, Object answer, Use use) {
        String before = Whole.of(b);
        checks.due(what, Checks.answerOf(() -> use.on(b)), answer);
        checks.due(what + " alters nothing", Whole.of(b), before);
    }

    /** Undoes all that can be undone: each time all is as it was ahead of the change. */
    private void undoAll(String what, TangramBoard b) {
        int most = past.size();
        checks.due(what + ": size(9)", b.size(9), most);
        for (int left = most - 1; left >= 0; left--) {
            checks.due(what + ": undo()", b.undo(), left);
            checks.due(what + ": size(9)", b.size(9), left);
            checks.due(what + ": undone", Whole.held(b), past.remove(past.size() - 1));
        }
        nothing(what + ": undo() of no change", b, -1, TangramBoard::undo);
        past.clear();
    }

    /** Numbers of pieces: each told by a piece and a what. */
    private void numbers(String what, TangramBoard b, String wanted, int[][] asked) {
        StringBuilder got = new StringBuilder();
        for (int[] a : asked) {
            got.append(b.piece(a[0], a[1])).append(' ');
        }
        checks.due(what, got.toString().trim(), wanted);
    }

    // ---- promise 26

    private void placeAtTheRims() {
        TangramBoard b = Texts.board("board 9 6;");
        int[][] boxes = {{4, 2}, {4, 2}, {2, 2}, {2, 2}, {3, 1}, {2, 1}, {2, 1}};
        int[] quarters = {16, 16, 8, 8, 8, 4, 4};
        for (int piece = 0; piece < 7; piece++) {
            int p = piece;
            for (int form = 0; form < 8; form++) {
                int t = form / 2;
                boolean f = form % 2 == 1;
                int x = 9 - boxes[p][t % 2];
                int y = 6 - boxes[p][1 - t % 2];
                String name = "26 place of " + p + ", form " + form;
                change(name, b, quarters[p], o -> o.place(p, x, y, t, f));
                checks.due(name, b.piece(p, 0) + " " + b.piece(p, 1) + " " + b.piece(p, 2) + " " + b.piece(p, 3),
                    x + " " + y + " " + t + " " + form % 2);
                int[][] out = {{x + 1, y}, {x, y + 1}, {-1, 0}, {0, -1}, {Integer.MAX_VALUE, y}, {x, Integer.MAX_VALUE},
                    {Integer.MIN_VALUE, 0}, {0, Integer.MIN_VALUE}, {Integer.MAX_VALUE - 1, Integer.MAX_VALUE - 1}};
                for (int[] o : out) {
                    nothing(name + " at " + o[0] + " " + o[1], b, -1, c -> c.place(p, o[0], o[1], t, f));
                }
            }
            change("27 takeOff", b, true, o -> o.takeOff(p));
        }
        undoAll("26 at the rims", b);
    }

    private void placeAllPieces() {
        TangramBoard b = Texts.board("board 4 4;");
        int covered = 0;
        for (int piece = 0; piece < 7; piece++) {
            int[] w = WAY[piece];
            int p = piece;
            covered += b.piece(piece, 6);
            change("26 place of " + p, b, covered, o -> o.place(p, w[0], w[1], w[2], w[3] == 1));
        }
        checks.due("26 all quarters of the board", covered, 64);
        change("26 a piece at its own place", b, 64, o -> o.place(6, 0, 3, 2, false));
        change("26 over itself alone, flipped", b, 64, o -> o.place(6, 0, 3, 2, true));
        nothing("26 over piece 0", b, -2, o -> o.place(1, 0, 0, 0, false));
        nothing("26 over piece 6", b, -8, o -> o.place(5, 0, 3, 2, false));
        nothing("26 over itself and piece 1", b, -3, o -> o.place(0, 0, 0, 1, false));
        nothing("26 over itself and beyond the rim", b, -1, o -> o.place(0, 1, 0, 0, false));
        undoAll("26 all pieces", b);
    }

    private void placeWrongly() {
        TangramBoard b = Texts.board("board 9 6; piece 0 at 0 0 turn 0;");
        change("26 place", b, 20, o -> o.place(5, 7, 5, 2, false));
        for (int none : NO_PIECES) {
            nothing("26 piece " + none, b, NO_INDEX, o -> o.place(none, 0, 2, 0, false));
            nothing("26 piece " + none + ", turn 4", b, NO_INDEX, o -> o.place(none, 0, 2, 4, false));
        }
        for (int turn : NO_TURNS) {
            nothing("26 turn " + turn, b, BAD, o -> o.place(1, 0, 3, turn, false));
            nothing("26 turn " + turn + " of a refused place", b, BAD, o -> o.place(1, 0, 0, turn, true));
            nothing("26 turn " + turn + " beyond the rim", b, BAD, o -> o.place(1, -1, 0, turn, true));
        }
        undoAll("26 wrong calls", b);
    }

    // ---- promise 27

    private void takeOff() {
        TangramBoard b = Texts.board("board 12 12; piece 6 at 10 11 turn 0; piece 0 at 0 0 turn 0;");
        change("27 takeOff(6)", b, true, o -> o.takeOff(6));
        change("27 takeOff(6), off", b, false, o -> o.takeOff(6));
        change("27 takeOff(0), the last one", b, true, o -> o.takeOff(0));
        checks.due("27 nothing is left", b.size(2) + " " + b.size(3) + " " + b.size(5), "0 0 0");
        change("27 takeOff(3), never placed", b, false, o -> o.takeOff(3));
        for (int none : NO_PIECES) {
            nothing("27 takeOff(" + none + ")", b, NO_INDEX, o -> o.takeOff(none));
        }
        undoAll("27", b);
    }

    // ---- promises 28 and 29

    private void turn() {
        TangramBoard b = Texts.board("board 5 4; piece 5 at 3 3 turn 0; piece 6 at 4 0 turn 1; "
            + "piece 3 at 0 2 turn 3 flip;");
        nothing("28 turn(5), beyond the lower rim", b, -1, o -> o.turn(5));
        nothing("28 turn(6), beyond the right rim", b, -1, o -> o.turn(6));
        nothing("28 turn(0), off", b, -1, o -> o.turn(0));
        change("28 turn(3), from 3 to 0", b, 0, o -> o.turn(3));
        checks.due("28 it stays flipped", b.piece(3, 3), 1);
        change("28 turn(3), which covers the same quarters", b, 1, o -> o.turn(3));
        change("28 place", b, 16, o -> o.place(6, 3, 0, 1, false));
        change("28 turn(6), at the right rim", b, 2, o -> o.turn(6));
        change("28 place", b, 16, o -> o.place(5, 3, 2, 0, true));
        change("28 turn(5), at the lower rim", b, 1, o -> o.turn(5));
        numbers("28 its box", b, "3 2 1 2", new int[][] {{5, 0}, {5, 1}, {5, 4}, {5, 5}});
        change("28 turn(5)", b, 2, o -> o.turn(5));
        change("28 place", b, 24, o -> o.place(2, 2, 1, 0, false));
        nothing("28 turn(6), overlaps", b, -1, o -> o.turn(6));
        for (int none : NO_PIECES) {
            nothing("28 turn(" + none + ")", b, NO_INDEX, o -> o.turn(none));
        }
        undoAll("28", b);
    }

    private void flip() {
        TangramBoard b = Texts.board("board 4 4; piece 2 at 0 0 turn 0; piece 5 at 1 1 turn 2; piece 4 at 1 3 turn 2;");
        nothing("29 flip(2), overlaps", b, -1, o -> o.flip(2));
        nothing("29 flip(0), off", b, -1, o -> o.flip(0));
        change("29 flip(5), which covers the same quarters", b, 1, o -> o.flip(5));
        checks.due("29 its turn stays", b.piece(5, 2), 2);
        change("29 flip(5), back", b, 0, o -> o.flip(5));
        change("29 flip(4), at two rims", b, 1, o -> o.flip(4));
        change("29 takeOff", b, true, o -> o.takeOff(5));
        change("29 flip(2), with room", b, 1, o -> o.flip(2));
        checks.due("29 its box stays", b.piece(2, 0) + " " + b.piece(2, 1) + " " + b.piece(2, 2), "0 0 0");
        for (int none : NO_PIECES) {
            nothing("29 flip(" + none + ")", b, NO_INDEX, o -> o.flip(none));
        }
        undoAll("29", b);
    }

    // ---- promise 30

    private void shift() {
        TangramBoard b = Texts.board("board 9 6; piece 0 at 1 1 turn 0; piece 4 at 5 2 turn 1; piece 3 at 3 3 turn 0;");
        int[][] out = {{-2, 0}, {0, -2}, {4, 0}, {0, 2}, {4, 2}, {-2, -2}, {3, -2}, {-1, 2}, {4, -1}, {-2, 1},
            {Integer.MIN_VALUE, 0}, {0, Integer.MIN_VALUE}, {Integer.MAX_VALUE, 0}, {0, Integer.MAX_VALUE},
            {Integer.MAX_VALUE - 4, Integer.MAX_VALUE - 4}, {Integer.MIN_VALUE + 1, Integer.MIN_VALUE + 1}};
        for (int[] o : out) {
            nothing("30 shift(" + o[0] + ", " + o[1] + ")", b, false, c -> c.shift(o[0], o[1]));
        }
        change("30 shift to the upper left corner", b, true, o -> o.shift(-1, -1));
        numbers("30 x and y", b, "0 0 4 2", new int[][] {{0, 0}, {0, 1}, {4, 0}, {3, 1}});
        nothing("30 shift(-1, 0)", b, false, o -> o.shift(-1, 0));
        nothing("30 shift(0, -1)", b, false, o -> o.shift(0, -1));
        change("30 shift to the lower right corner", b, true, o -> o.shift(4, 2));
        numbers("30 x and y", b, "4 2 8 4", new int[][] {{0, 0}, {0, 1}, {4, 0}, {3, 1}});
        checks.due("30 the turn stays", b.piece(4, 2), 1);
        nothing("30 shift(1, 0)", b, false, o -> o.shift(1, 0));
        nothing("30 shift(0, 1)", b, false, o -> o.shift(0, 1));
        change("30 shift(0, 0)", b, true, o -> o.shift(0, 0));
        undoAll("30", b);
    }

    private void shiftFar() {
        TangramBoard b = Texts.board("board 12 12; piece 5 at 0 0 turn 0;");
        change("30 shift(10, 11)", b, true, o -> o.shift(10, 11));
        checks.due("30 the last quarter but two", b.pieceAt(572), 5);
        nothing("30 shift(-11, 0)", b, false, o -> o.shift(-11, 0));
        nothing("30 shift(0, -12)", b, false, o -> o.shift(0, -12));
        // The sum of a place and this would be below 0, as an int that wraps.
        nothing("30 shift(MAX_VALUE, 0)", b, false, o -> o.shift(Integer.MAX_VALUE, 0));
        nothing("30 shift(0, MAX_VALUE - 10)", b, false, o -> o.shift(0, Integer.MAX_VALUE - 10));
        change("30 shift(-10, -11)", b, true, o -> o.shift(-10, -11));
        change("30 takeOff", b, true, o -> o.takeOff(5));
        change("30 no piece, shift(99, -99)", b, true, o -> o.shift(99, -99));
        change("30 no piece, shift far", b, true, o -> o.shift(Integer.MAX_VALUE, Integer.MIN_VALUE));
        undoAll("30 far", b);
        shiftEachPiece();
        TangramBoard full = Texts.board(SQUARE);
        change("33 solve(0)", full, true, o -> o.solve(0));
        for (int d = 0; d < 9; d++) {
            int dx = d % 3 - 1;
            int dy = d / 3 - 1;
            if (dx != 0 || dy != 0) {
                nothing("30 a full board, shift(" + dx + ", " + dy + ")", full, false, o -> o.shift(dx, dy));
            }
        }
        change("30 a full board, shift(0, 0)", full, true, o -> o.shift(0, 0));
        undoAll("30 full", full);
    }

    private void shiftEachPiece() {
        for (int piece = 0; piece < 7; piece++) {
            TangramBoard b = Texts.board("board 12 12; piece " + piece + " at 0 0 turn 0;");
            int x = 12 - b.piece(piece, 4);
            int y = 12 - b.piece(piece, 5);
            nothing("30 piece " + piece + ", shift(-1, 0)", b, false, o -> o.shift(-1, 0));
            nothing("30 piece " + piece + ", shift(0, -1)", b, false, o -> o.shift(0, -1));
            nothing("30 piece " + piece + ", too far to the right", b, false, o -> o.shift(x + 1, 0));
            nothing("30 piece " + piece + ", too far down", b, false, o -> o.shift(0, y + 1));
            change("30 piece " + piece + ", as far as it can", b, true, o -> o.shift(x, y));
            nothing("30 piece " + piece + ", shift(1, 0)", b, false, o -> o.shift(1, 0));
            nothing("30 piece " + piece + ", shift(0, 1)", b, false, o -> o.shift(0, 1));
            undoAll("30 piece " + piece, b);
        }
    }

    // ---- promises 31 to 33

    private void keep() {
        TangramBoard b = Texts.board("board 4 4;");
        nothing("31 keep() of nothing", b, -1, TangramBoard::keep);
        change("26 place", b, 4, o -> o.place(5, 2, 3, 2, false));
        for (int shape = 0; shape < 8; shape++) {
            change("31 keep()", b, shape, TangramBoard::keep);
            checks.due("31 its box", b.shape(shape, 1) + " " + b.shape(shape, 2), "2 3");
        }
        nothing("31 keep() of a ninth", b, -1, TangramBoard::keep);
        undoAll("31", b);
        TangramBoard full = Texts.board("board 4 4; piece 5 at 0 0 turn 0;" + " shape 0 0e1s1nw1;".repeat(7));
        change("31 keep() of the eighth", full, 7, TangramBoard::keep);
        nothing("31 keep() of a ninth", full, -1, TangramBoard::keep);
        change("27 takeOff", full, true, o -> o.takeOff(5));
        nothing("31 keep() of nothing as a ninth", full, -1, TangramBoard::keep);
        change("32 remove", full, 7, o -> o.remove(3));
        nothing("31 keep() of nothing, with room", full, -1, TangramBoard::keep);
        change("26 place", full, 8, o -> o.place(3, 2, 2, 0, false));
        change("31 keep() with room again", full, 7, TangramBoard::keep);
        checks.due("31 the shape", full.shape(7, 0) + " " + full.shape(6, 0), "8 4");
        undoAll("31 full", full);
    }

    private void remove() {
        StringBuilder text = new StringBuilder("board 12 12;");
        for (int shape = 0; shape < 8; shape++) {
            int width = shape + 1;
            text.append("shape 0 ").append(shape).append("e").append(width).append("s1w").append(width).append("n1;");
        }
        TangramBoard b = Texts.board(text.toString());
        for (int none : NO_SHAPES) {
            nothing("32 remove(" + none + ") of 8", b, NO_INDEX, o -> o.remove(none));
        }
        widths("32 eight shapes", b, "1 2 3 4 5 6 7 8");
        change("32 remove the last one", b, 7, o -> o.remove(7));
        widths("32 remove(7)", b, "1 2 3 4 5 6 7");
        nothing("32 remove(7) of 7", b, NO_INDEX, o -> o.remove(7));
        change("32 remove the first one", b, 6, o -> o.remove(0));
        widths("32 remove(0)", b, "2 3 4 5 6 7");
        change("32 remove one between", b, 5, o -> o.remove(2));
        widths("32 remove(2)", b, "2 3 5 6 7");
        for (int left = 4; left >= 0; left--) {
            int due = left;
            change("32 remove(0)", b, due, o -> o.remove(0));
        }
        for (int none : new int[] {Integer.MIN_VALUE, -1, 0, 1, Integer.MAX_VALUE}) {
            nothing("32 remove(" + none + ") of none", b, NO_INDEX, o -> o.remove(none));
        }
        undoAll("32", b);
        widths("32 all undone", b, "1 2 3 4 5 6 7 8");
    }

    private void widths(String what, TangramBoard b, String wanted) {
        StringBuilder got = new StringBuilder();
        for (int shape = 0; shape < b.size(8); shape++) {
            got.append(b.shape(shape, 3)).append(' ');
        }
        checks.due(what, got.toString().trim(), wanted);
    }

    private void solve() {
        TangramBoard b = Texts.board(SQUARE + "shape 0 0 e 4 s 4 w 4 n 3 ne 1 w 1; shape 0 0 e1s1nw1; "
            + "piece 6 at 2 0 turn 0 flip;");
        nothing("33 solve(1), 62 quarters", b, false, o -> o.solve(1));
        nothing("33 solve(2), 2 quarters", b, false, o -> o.solve(2));
        for (int none : new int[] {Integer.MIN_VALUE, -1, 3, 8, Integer.MAX_VALUE}) {
            nothing("33 solve(" + none + ")", b, NO_INDEX, o -> o.solve(none));
        }
        change("33 solve(0)", b, true, o -> o.solve(0));
        for (int piece = 0; piece < 7; piece++) {
            for (int what = 0; what < 4; what++) {
                checks.due("33 piece(" + piece + ", " + what + ")", b.piece(piece, what), WAY[piece][what]);
            }
        }
        checks.due("33 it is the silhouette", b.alike(0) + " " + b.missing(0), "1 0");
        change("33 solve(0) again", b, true, o -> o.solve(0));
        nothing("33 solve(1) of a solved one", b, false, o -> o.solve(1));
        undoAll("33", b);
        TangramBoard empty = new TangramBoard();
        nothing("33 no shape", empty, NO_INDEX, o -> o.solve(0));
        nothing("33 no shape", empty, NO_INDEX, o -> o.solve(-1));
    }

    // ---- promise 34

    private void undoEightChanges() {
        nothing("34 undo() of a new object", new TangramBoard(), -1, TangramBoard::undo);
        for (int changes = 1; changes <= 20; changes++) {
            TangramBoard b = Texts.board("board 12 5; piece 5 at 0 0 turn 0;");
            for (int i = 0; i < changes; i++) {
                int y = (i + 1) % 5;
                change("26 place", b, 4, o -> o.place(5, y, y, 0, false));
            }
            undoAll("34 " + changes + " changes", b);
        }
    }

    private void undoAndGoOn() {
        TangramBoard b = Texts.board("board 9 9; piece 0 at 2 2 turn 0;");
        for (int round = 0; round < 5; round++) {
            for (int i = 0; i < 6; i++) {
                int step = i;
                change("34 shift", b, true, o -> o.shift(step % 2, 0));
            }
            for (int i = 0; i < 3; i++) {
                checks.due("34 undo()", b.undo() >= 0, true);
                checks.due("34 undone", Whole.held(b), past.remove(past.size() - 1));
            }
            nothing("34 a refused change", b, -1, o -> o.place(0, 8, 8, 0, false));
            nothing("34 an exception", b, NO_INDEX, o -> o.place(7, 0, 0, 0, false));
            change("34 shift back", b, true, o -> o.shift(-1, 0));
        }
        undoAll("34 on and back", b);
    }

    private void undoOfEachChange() {
        TangramBoard b = Texts.board(SQUARE + "piece 4 at 0 0 turn 0;");
        b.append(0x20202020, 0x20202020, 0x20202020, 0x20202020, 0x20202020);
        change("34 place", b, 16, o -> o.place(3, 2, 2, 0, false));
        change("34 turn", b, 1, o -> o.turn(3));
        change("34 flip", b, 1, o -> o.flip(3));
        change("34 shift", b, true, o -> o.shift(0, 0));
        change("34 keep", b, 1, TangramBoard::keep);
        change("34 remove", b, 1, o -> o.remove(0));
        change("34 takeOff", b, true, o -> o.takeOff(4));
        b.undo();
        past.remove(past.size() - 1);
        b.undo();
        past.remove(past.size() - 1);
        change("34 solve", b, true, o -> o.solve(0));
        undoAll("34 each change", b);
        checks.due("34 the buffer stays", b.size(10), 20);
    }

    // ---- promises 35 and 36

    private void saveSnapshot() {
        TangramBoard b = Texts.board("board 9 6; piece 0 at 0 0 turn 0;");
        change("34 shift", b, true, o -> o.shift(1, 1));
        for (int none : NO_SLOTS) {
            nothing("35 saveSnapshot(" + none + ")", b, BAD, o -> o.saveSnapshot(none));
            nothing("36 restoreSnapshot(" + none + ")", b, BAD, o -> o.restoreSnapshot(none));
        }
        nothing("36 no snapshot in 0", b, NO_STATE, o -> o.restoreSnapshot(0));
        nothing("36 no snapshot in 1", b, NO_STATE, o -> o.restoreSnapshot(1));
        nothing("35 saveSnapshot(0)", b, false, o -> o.saveSnapshot(0));
        nothing("36 no snapshot in 1 still", b, NO_STATE, o -> o.restoreSnapshot(1));
        nothing("35 saveSnapshot(1)", b, false, o -> o.saveSnapshot(1));
        nothing("35 saveSnapshot(0) again", b, true, o -> o.saveSnapshot(0));
        nothing("35 saveSnapshot(1) again", b, true, o -> o.saveSnapshot(1));
        nothing("35 saveSnapshot(2)", b, BAD, o -> o.saveSnapshot(2));
        undoAll("35", b);
    }

    private void restoreSnapshot() {
        TangramBoard b = Texts.board("board 9 6; piece 0 at 0 0 turn 0; shape 0 0e1s1nw1;");
        b.append(0, 0, 0, 0, 0);
        String first = Whole.held(b);
        b.saveSnapshot(1);
        b.place(4, 5, 5, 0, true);
        b.keep();
        String second = Whole.held(b);
        b.saveSnapshot(0);
        b.remove(0);
        b.takeOff(0);
        b.takeOff(4);
        // Each slot holds its own snapshot, and goes on to hold it.
        for (int i = 0; i < 2; i++) {
            checks.due("36 restoreSnapshot(1)", b.restoreSnapshot(1), 1);
            checks.due("36 the first one", Whole.held(b), first);
            nothing("36 nothing can be undone", b, -1, TangramBoard::undo);
            b.flip(0);
            b.keep();
            checks.due("36 restoreSnapshot(0)", b.restoreSnapshot(0), 2);
            checks.due("36 the second one", Whole.held(b), second);
            nothing("36 nothing can be undone", b, -1, TangramBoard::undo);
            b.remove(1);
            b.shift(0, 0);
        }
        checks.due("36 the buffer stays", b.size(10), 20);
        // In place of an earlier one.
        String third = Whole.held(b);
        checks.due("35 saveSnapshot(1)", b.saveSnapshot(1), true);
        b.takeOff(4);
        checks.due("36 restoreSnapshot(1)", b.restoreSnapshot(1), 2);
        checks.due("36 the one in its place", Whole.held(b), third);
        checks.due("36 the other slot", b.restoreSnapshot(0), 2);
        checks.due("36 the second one still", Whole.held(b), second);
    }

    private void snapshotsAndUndo() {
        TangramBoard b = Texts.board("board 9 6; piece 0 at 0 0 turn 0;");
        change("34 keep", b, 0, TangramBoard::keep);
        checks.due("35 saveSnapshot(0)", b.saveSnapshot(0), false);
        change("34 shift", b, true, o -> o.shift(1, 0));
        nothing("36 an empty slot", b, NO_STATE, o -> o.restoreSnapshot(1));
        nothing("36 no slot", b, BAD, o -> o.restoreSnapshot(2));
        undoAll("36 undo beside a snapshot", b);
        checks.due("36 undo leaves the snapshot", b.restoreSnapshot(0) + " " + b.size(8), "1 1");
        past.clear();
        change("34 a change behind it", b, 1, TangramBoard::keep);
        undoAll("36 undo of what came behind it", b);
        checks.due("36 two shapes less one", b.size(8), 1);
    }

    private void emptyAndFullSnapshots() {
        TangramBoard b = Texts.board(SQUARE);
        b.saveSnapshot(0);
        b.solve(0);
        for (int i = 0; i < 8; i++) {
            b.keep();
        }
        b.saveSnapshot(1);
        String full = Whole.held(b);
        checks.due("36 no piece", b.restoreSnapshot(0), 0);
        checks.due("36 all as it was", Whole.of(b), Whole.of(Texts.board(SQUARE)));
        checks.due("36 all pieces", b.restoreSnapshot(1), 7);
        checks.due("36 eight shapes", b.size(8), 8);
        checks.due("36 all as it was", Whole.held(b), full);
    }

    // ---- promise 37

    private void checksum() {
        TangramBoard full = Texts.board(SQUARE);
        full.solve(0);
        for (int i = 0; i < 8; i++) {
            full.keep();
        }
        full.takeOff(5);
        full.append(0, 0, 0, 0, 0);
        TangramBoard wide = Texts.board("board 12 4; piece 4 at 9 3 turn 0 flip; shape 11 3 e1s1nw1;");
        TangramBoard high = Texts.board("board 4 12; piece 4 at 3 9 turn 3 flip; piece 0 at 0 0 turn 0;");
        TangramBoard least = Texts.board("board 4 4;");
        TangramBoard greatest = Texts.board("board 12 12;");
        TangramBoard[] all = {new TangramBoard(), least, greatest, full, wide, high};
        for (int i = 0; i < all.length; i++) {
            nothing("37 checksum() of object " + i, all[i], sum(all[i]), TangramBoard::checksum);
        }
        // Neither the buffer nor the changes nor snapshots count.
        TangramBoard b = new TangramBoard();
        long before = b.checksum();
        b.shift(0, 0);
        b.saveSnapshot(0);
        b.append(0, 0, 0, 0, 0);
        checks.due("37 the same checksum", b.checksum(), before);
    }

    /** The sum without an end; then its last 64 bits. */
    private static long sum(TangramBoard b) {
        List<Integer> numbers = new ArrayList<>();
        for (int what = 0; what <= 8; what++) {
            numbers.add(b.size(what));
        }
        for (int i = 0; i < 28; i++) {
            numbers.add(b.piece(i / 4, i % 4));
        }
        for (int quarter = 0; quarter < 576; quarter++) {
            if (quarter / 4 % 12 < b.size(0) && quarter / 48 < b.size(1)) {
                numbers.add(b.pieceAt(quarter));
            }
        }
        for (int i = 0; i < 6 * b.size(5); i++) {
            numbers.add(b.loop(i / 6, i % 6));
        }
        for (int i = 0; i < 5 * b.size(8); i++) {
            numbers.add(b.shape(i / 5, i % 5));
        }
        BigInteger sum = BigInteger.ZERO;
        for (int n : numbers) {
            sum = sum.multiply(BigInteger.valueOf(31)).add(BigInteger.valueOf(n));
        }
        return sum.longValue();
    }

    /** An object is used for at most 512 calls; these are its dearest ones. */
    private void manyCalls() {
        TangramBoard b = Texts.board(SQUARE + "piece 0 at 0 0 turn 0;");
        for (int i = 0; i < 100; i++) {
            checks.due("33 solve(0)", b.solve(0), true);
            checks.due("24 ways(0)", b.ways(0), 8);
            checks.due("34 undo()", b.undo(), Math.min(7, i));
            checks.due("30 shift(0, 0)", b.shift(0, 0), true);
            checks.due("8 places(1)", b.places(1), 4);
        }
    }
}
