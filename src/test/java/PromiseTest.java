import java.util.NoSuchElementException;

/** Each promise of the document with answers that were found by hand, on small boards. */
public final class PromiseTest {
    private static final Class<IllegalArgumentException> BAD = IllegalArgumentException.class;
    private static final Class<IndexOutOfBoundsException> NO_INDEX = IndexOutOfBoundsException.class;
    private static final Class<NoSuchElementException> NO_ELEMENT = NoSuchElementException.class;

    /**
     * Five pieces round a hole with the corners (4, 1), (3, 2) and (4, 2), in cells. The outline goes from
     * (3, 0) by (5, 0), (5, 2), (4, 3), (4, 4), (2, 2) and (1, 2) back.
     */
    private static final String RING = "board 8 8; piece 6 at 3 0 turn 0; piece 5 at 1 1 turn 2; "
        + "piece 4 at 4 0 turn 1; piece 3 at 2 0 turn 0; piece 2 at 2 2 turn 1;";

    /** Five pieces that enclose a hollow, but touch at the point (3, 4) only: one loop goes there twice. */
    private static final String PINCH = "board 8 8; piece 6 at 2 2 turn 1; piece 5 at 2 1 turn 3 flip; "
        + "piece 4 at 1 2 turn 3; piece 3 at 1 4 turn 2; piece 2 at 2 4 turn 1;";

    /** The large triangles with their right angles at one point, above and below it. */
    private static final String HOURGLASS = "board 4 4; piece 0 at 0 0 turn 0; piece 1 at 0 2 turn 2;";

    private static final String SQUARE = "board 5 4; shape 0 0 e 4 s 4 w 4 n 4;";

    private final Checks checks = new Checks();

    public static void main(String[] args) {
        PromiseTest test = new PromiseTest();
        test.promise01NewObject();
        test.promise02Append();
        test.promise03Parse();
        test.promise03ParseErrors();
        test.promise03Crossings();
        test.promise04Size();
        test.promise05Piece();
        test.promise06PieceAt();
        test.promise07WhyNot();
        test.promise08Places();
        test.promise09Seams();
        test.promise10Matches();
        test.promise11Inner();
        test.promise12Loop();
        test.promise13Edge();
        test.promise14Perimeter();
        test.promise15Fullness();
        test.promise16Looks();
        test.promise17IsSimple();
        test.promise18Shape();
        test.promise19HasQuarter();
        test.promise20Alike();
        test.promise21Find();
        test.promise22Kinds();
        test.promise23Missing();
        test.promise24Ways();
        test.promise25FirstWay();
        test.promise26Place();
        test.promise27TakeOff();
        test.promise28Turn();
        test.promise29Flip();
        test.promise30Shift();
        test.promise31Keep();
        test.promise32Remove();
        test.promise33Solve();
        test.promise34Undo();
        test.promise35SaveSnapshot();
        test.promise36RestoreSnapshot();
        test.promise37Checksum();
        test.checks.end();
    }

    private static int quarter(int x, int y, int k) {
        return 4 * (12 * y + x) + k;
    }

    private void promise01NewObject() {
        TangramBoard b = new TangramBoard();
        int[] sizes = {8, 8, 0, 0, 0, 0, 0, 0, 0, 0, 0};
        for (int what = 0; what < sizes.length; what++) {
            checks.due("1 size(" + what + ")", b.size(what), sizes[what]);
        }
        for (int piece = 0; piece < 7; piece++) {
            checks.due("1 piece(" + piece + ", 0)", b.piece(piece, 0), -1);
        }
        checks.due("1 undo()", b.undo(), -1);
        checks.throwsDue("1 restoreSnapshot(0)", () -> b.restoreSnapshot(0), IllegalStateException.class);
        checks.throwsDue("1 restoreSnapshot(1)", () -> b.restoreSnapshot(1), IllegalStateException.class);
        checks.due("1 checksum()", b.checksum(), Texts.board("board 8 8;").checksum());
        checks.due("1 NONE", TangramBoard.NONE, -1);
    }

    private void promise02Append() {
        TangramBoard b = new TangramBoard();
        // "board 8 8;" in the middle of five arguments; a byte above 127 at the end of what is parsed.
        checks.due("2 append", b.append(0x20202062, 0x6f617264, 0x20382038, 0x3b202020, 0x202020e9), 20);
        checks.due("2 append", b.append(0, 0, 0, 0, 0), 40);
        checks.due("2 parse", b.parse(19), 0);
        checks.due("2 append", b.append(0x626f6172, 0x64203420, 0x343be920, 0x20202020, 0x20202020), 20);
        checks.due("2 parse", b.parse(20), -2 - (8 * 10 + 1));
        for (int i = 1; i <= 35; i++) {
            checks.due("2 append", b.append(0x20202020, 0x20202020, 0x20202020, 0x20202020, 0x20202020), 20 * i);
        }
        checks.due("2 append to a full buffer", b.append(1, 2, 3, 4, 5), -1);
        checks.due("2 size(10)", b.size(10), 700);
        checks.due("2 parse of 700 spaces", b.parse(700), -2 - (8 * 700 + 1));
    }

    private void promise03Parse() {
        TangramBoard b = Texts.board(RING);
        b.append(0x20202020, 0x20202020, 0x20202020, 0x20202020, 0x20202020);
        checks.throwsDue("3 parse(-1)", () -> b.parse(-1), BAD);
        checks.throwsDue("3 parse(21)", () -> b.parse(21), BAD);
        checks.due("3 size(10) behind an exception", b.size(10), 20);
        b.keep();
        b.saveSnapshot(0);
        b.saveSnapshot(1);
        long before = b.checksum();
        checks.due("3 parse(0)", b.parse(0), -3);
        checks.due("3 size(10)", b.size(10), 0);
        checks.due("3 checksum() behind an error", b.checksum(), before);
        checks.due("3 size(9) behind an error", b.size(9), 1);
        checks.due("3 snapshots behind an error", b.saveSnapshot(0) && b.saveSnapshot(1), true);
        int shapes = Texts.parse(b, "board\n4  12;shape 0 0e4s4w4n4;piece 6 at 02 11 turn 0;shape 4 12 nw 1 e1 s1;");
        checks.due("3 parse", shapes, 2);
        checks.due("3 size(0)", b.size(0), 4);
        checks.due("3 size(1)", b.size(1), 12);
        checks.due("3 size(2)", b.size(2), 1);
        checks.due("3 piece(6, 1)", b.piece(6, 1), 11);
        checks.due("3 size(9)", b.size(9), 0);
        checks.due("3 undo()", b.undo(), -1);
        checks.throwsDue("3 restoreSnapshot(0)", () -> b.restoreSnapshot(0), IllegalStateException.class);
        checks.due("3 saveSnapshot(1)", b.saveSnapshot(1), false);
        checks.due("3 less than the whole text", Texts.parse(b, "board 5 6;"), 0);
        checks.due("3 the replaced catalogue", b.size(8), 0);
    }

    private void error(String text, int offset, int code) {
        TangramBoard b = new TangramBoard();
        checks.due("3 parse of " + text, Texts.parse(b, text), -2 - (8 * offset + code));
        checks.due("3 checksum() behind " + text, b.checksum(), new TangramBoard().checksum());
    }

    private void promise03ParseErrors() {
        error("", 0, 1);
        error("board 8 8", 9, 1);
        error("board 8 8  ", 11, 1);
        error("boards 8 8;", 0, 1);
        error("boardz 8 8;", 0, 1);
        error(";".repeat(700), 0, 1);
        error("Board 8 8;", 0, 1);
        error("board\t8 8;", 5, 1);
        error("board 3 8;", 6, 2);
        error("board 13 8;", 6, 2);
        error("board 8 3;", 8, 2);
        error("board 8 13;", 8, 2);
        error("board 008 8;", 6, 1);
        error("board 8 8;;", 10, 1);
        error("board 8 8; board 8 8;", 11, 1);
        error("board 8 8; piece 7 at 0 0 turn 0;", 17, 2);
        error("board 8 8; piece 1 at 8 0 turn 0;", 22, 2);
        error("board 8 8; piece 1 at 0 8 turn 0;", 24, 2);
        error("board 8 8; piece 1 at 0 0 turn 4;", 31, 2);
        error("board 8 8; piece 1 at 0 0 turn 0 flip flip;", 38, 1);
        error("board 8 8; piece 1 at 0 0 flip;", 26, 1);
        error("board 8 8; piece 1 at 5 0 turn 0;", 32, 3);
        error("board 8 8; piece 1 at 5 0 turn 0", 32, 1);
        error("board 8 8; piece 1 at 0 0 turn 0; piece 1 at 5 0 turn 0;", 40, 3);
        error("board 8 8; piece 1 at 0 0 turn 0; piece 2 at 0 0 turn 0;", 55, 3);
        error("board 8 8; shape 9 0 e 1;", 17, 2);
        error("board 8 8; shape 0 9 e 1;", 19, 2);
        error("board 8 8; shape 0 0 ;", 21, 1);
        error("board 8 8; shape 0 0 e 0;", 23, 2);
        error("board 8 8; shape 0 0 e 13;", 23, 2);
        error("board 8 8; shape 0 0 e 100;", 23, 1);
        error("board 8 8; shape 0 0 e 9;", 23, 2);
        error("board 8 8; shape 0 0 ne 1;", 24, 2);
        error("board 8 8; shape 0 0 sw 1;", 24, 2);
        error("board 8 8; shape 8 8 s 1;", 23, 2);
        error("board 8 8; shape 0 0 e ;", 23, 1);
        error("board 8 8; shape 0 0 e 1 s 1;", 28, 3);
        error("board 8 8; shape 0 0 e 1 s 1 w 1;", 32, 3);
        error("board 8 8; shape 0 0 e 2 s 1 w 1 n 1;", 36, 3);
        error("board 8 8; shape 0 0 e 1 w 1;", 28, 3);
        for (String word : new String[] {"board", "piece", "at", "turn", "flip", "shape", "1", ";", "x"}) {
            error("board 8 8; shape 0 0 " + word + " 1 s 1 w 1 n 1;", 21, 1);
        }
        error("board 8 8; shape 0 0 e 1 at;", 25, 1);
        eightShapes();
        textsThatAreCutOff();
    }

    private void textsThatAreCutOff() {
        int[][] wanted = {{3, 0, 1}, {5, 5, 1}, {7, 6, 2}, {8, 8, 1}, {11, 11, 1}, {15, 13, 1}, {18, 18, 1}};
        for (int[] w : wanted) {
            TangramBoard b = new TangramBoard();
            for (int[] r : Texts.rows("board 12 12; piece 0 at 0 0 turn 0;")) {
                b.append(r[0], r[1], r[2], r[3], r[4]);
            }
            checks.due("3 parse(" + w[0] + ")", b.parse(w[0]), -2 - (8 * w[1] + w[2]));
        }
    }

    private void eightShapes() {
        StringBuilder text = new StringBuilder("board 8 8;");
        for (int i = 0; i < 8; i++) {
            text.append("shape 0 0 e1s1nw1;");
        }
        checks.due("3 eight shapes", Texts.parse(new TangramBoard(), text.toString()), 8);
        error(text + " shape x", 10 + 8 * 18 + 1, 4);
        error(text + " piece shape", 10 + 8 * 18 + 7, 1);
    }

    private void promise03Crossings() {
        // A line that goes twice round the cells 1 and 2 leaves them out; there and back counts nothing.
        TangramBoard b = Texts.board("board 4 4; shape 0 0 e 4 s 1 w 4 n 1 e 1 s 1 e 2 n 1 w 3; "
            + "shape 0 0 se 2 sw 2 ne 2 nw 2 se 4 w 4 n 4;");
        checks.due("3 quarters", b.shape(0, 0), 8);
        checks.due("3 cell 0", b.hasQuarter(0, quarter(0, 0, 1)), true);
        checks.due("3 cell 1", b.hasQuarter(0, quarter(1, 0, 1)), false);
        checks.due("3 cell 3", b.hasQuarter(0, quarter(3, 0, 3)), true);
        checks.due("3 there and back", b.shape(1, 0), 32);
        boolean[] wanted = {false, false, true, true};
        for (int k = 0; k < 4; k++) {
            checks.due("3 a quarter of a diagonal", b.hasQuarter(1, quarter(2, 2, k)), wanted[k]);
        }
    }

    private void promise04Size() {
        TangramBoard b = Texts.board(RING + "shape 0 0 e 1 s 1 w 1 n 1;");
        int[] sizes = {8, 8, 5, 32, 1, 2, 1, 10, 1, 0, 0};
        for (int what = 0; what < sizes.length; what++) {
            checks.due("4 size(" + what + ")", b.size(what), sizes[what]);
        }
        checks.throwsDue("4 size(-1)", () -> b.size(-1), BAD);
        checks.throwsDue("4 size(11)", () -> b.size(11), BAD);
        b.append(0, 0, 0, 0, 0);
        checks.due("4 size(10)", b.size(10), 20);
        b.takeOff(5);
        checks.due("4 size(9)", b.size(9), 1);
        checks.due("4 parts of the hourglass", Texts.board(HOURGLASS).size(4), 2);
        checks.due("4 loops of the hourglass", Texts.board(HOURGLASS).size(5), 2);
        checks.due("4 loops of the pinch", Texts.board(PINCH).size(5), 1);
        // The quarters at the right and at the left rim are not next to each other.
        TangramBoard rims = Texts.board("board 12 12; piece 5 at 11 0 turn 1; piece 6 at 0 1 turn 3;");
        checks.due("4 parts at two rims", rims.size(4), 2);
        checks.due("4 loops at two rims", rims.size(5), 2);
        checks.due("4 borders at two rims", rims.loop(0, 1) + rims.loop(1, 1), 4);
        checks.due("4 seams at two rims", rims.seams(5, 6, true) + rims.seams(6, 5, true), 0);
        checks.due("4 holes of the pinch", Texts.board(PINCH).size(6), 0);
    }

    private void promise05Piece() {
        TangramBoard b = Texts.board("board 8 8; piece 0 at 1 2 turn 3 flip; piece 4 at 4 0 turn 1;");
        int[][] wanted = {{1, 2, 3, 1, 2, 4, 16, 4}, {-1, -1, -1, -1, 4, 2, 16, 4}, {-1, -1, -1, -1, 2, 2, 8, 4},
            {-1, -1, -1, -1, 2, 2, 8, 1}, {4, 0, 1, 0, 1, 3, 8, 4}, {-1, -1, -1, -1, 2, 1, 4, 4},
            {-1, -1, -1, -1, 2, 1, 4, 4}};
        for (int piece = 0; piece < 7; piece++) {
            for (int what = 0; what < 8; what++) {
                checks.due("5 piece(" + piece + ", " + what + ")", b.piece(piece, what), wanted[piece][what]);
            }
        }
        checks.throwsDue("5 piece(-1, 9)", () -> b.piece(-1, 9), NO_INDEX);
        checks.throwsDue("5 piece(7, 0)", () -> b.piece(7, 0), NO_INDEX);
        checks.throwsDue("5 piece(1, 8)", () -> b.piece(1, 8), BAD);
        checks.throwsDue("5 piece(1, -1)", () -> b.piece(1, -1), BAD);
    }

    private void promise06PieceAt() {
        // The parallelogram in its four looks: each covers other quarters of its first and last cell.
        String[] placed = {"turn 0", "turn 0 flip", "turn 1", "turn 1 flip"};
        int[][] cells = {{0, 0, 2, 0}, {0, 0, 2, 0}, {0, 0, 0, 2}, {0, 0, 0, 2}};
        String[] first = {"1100", "0110", "0110", "0011"};
        String[] last = {"0011", "1001", "1001", "1100"};
        for (int i = 0; i < 4; i++) {
            TangramBoard b = Texts.board("board 4 4; piece 4 at 0 0 " + placed[i] + ";");
            checks.due("6 first cell, " + placed[i], cell(b, cells[i][0], cells[i][1]), first[i]);
            checks.due("6 last cell, " + placed[i], cell(b, cells[i][2], cells[i][3]), last[i]);
        }
        TangramBoard b = Texts.board(HOURGLASS);
        checks.due("6 pieceAt", b.pieceAt(quarter(0, 0, 0)), 0);
        checks.due("6 pieceAt", b.pieceAt(quarter(0, 0, 2)), -1);
        checks.due("6 pieceAt", b.pieceAt(quarter(3, 3, 2)), 1);
        for (int none : new int[] {-1, 16, quarter(0, 4, 0), 576, Integer.MIN_VALUE, Integer.MAX_VALUE}) {
            checks.due("6 pieceAt(" + none + ")", b.pieceAt(none), -1);
        }
    }

    /** Which quarters of a cell are covered. */
    private static String cell(TangramBoard b, int x, int y) {
        StringBuilder text = new StringBuilder();
        for (int k = 0; k < 4; k++) {
            text.append(b.pieceAt(quarter(x, y, k)) == -1 ? '0' : '1');
        }
        return text.toString();
    }

    private void promise07WhyNot() {
        TangramBoard b = Texts.board("board 6 4; piece 1 at 0 0 turn 0; piece 4 at 0 3 turn 0;");
        checks.due("7 over piece 4", b.whyNot(0, 0, 2, 0, false), 6);
        checks.due("7 beside piece 1", b.whyNot(5, 0, 0, 3, false), 0);
        checks.due("7 the lowest of two", b.whyNot(0, 0, 0, 1, false), 3);
        checks.due("7 itself", b.whyNot(1, 0, 0, 2, true), 0);
        int[][] out = {{-1, 0}, {0, -1}, {3, 0}, {0, 3}, {Integer.MAX_VALUE, 0}, {0, Integer.MAX_VALUE},
            {Integer.MIN_VALUE, 0}, {0, Integer.MIN_VALUE}};
        for (int[] p : out) {
            checks.due("7 out of the board", b.whyNot(0, p[0], p[1], 0, false), 1);
        }
        checks.due("7 at the rim", b.whyNot(5, 4, 3, 0, false), 0);
        checks.due("7 over the rim when turned", b.whyNot(5, 4, 3, 1, false), 1);
        checks.throwsDue("7 no piece", () -> b.whyNot(7, 0, 0, 9, false), NO_INDEX);
        checks.throwsDue("7 no piece", () -> b.whyNot(-1, 0, 0, 0, false), NO_INDEX);
        checks.throwsDue("7 turn 4", () -> b.whyNot(0, 0, 0, 4, false), BAD);
        checks.throwsDue("7 turn -1", () -> b.whyNot(0, -9, 0, -1, false), BAD);
    }

    private void promise08Places() {
        TangramBoard empty = Texts.board("board 4 4;");
        int[] wanted = {12, 12, 36, 9, 32, 48, 48};
        for (int piece = 0; piece < 7; piece++) {
            checks.due("8 places(" + piece + ")", empty.places(piece), wanted[piece]);
        }
        TangramBoard b = Texts.board("board 4 4; piece 0 at 0 0 turn 0;");
        checks.due("8 places(0), taken off", b.places(0), 12);
        checks.due("8 places(1)", b.places(1), 4);
        checks.throwsDue("8 places(7)", () -> b.places(7), NO_INDEX);
        checks.throwsDue("8 places(-1)", () -> b.places(-1), NO_INDEX);
    }

    private void promise09Seams() {
        TangramBoard b = Texts.board(RING);
        int[][] wanted = {{2, 4, 1, 0}, {2, 5, 1, 0}, {3, 5, 0, 2}, {3, 6, 0, 2}, {4, 6, 0, 2}, {2, 3, 0, 0},
            {0, 1, 0, 0}, {3, 3, 0, 0}, {0, 3, 0, 0}};
        for (int[] w : wanted) {
            checks.due("9 seams " + w[0] + " " + w[1], b.seams(w[0], w[1], true), w[2]);
            checks.due("9 seams " + w[1] + " " + w[0], b.seams(w[1], w[0], true), w[2]);
            checks.due("9 short seams " + w[0] + " " + w[1], b.seams(w[0], w[1], false), w[3]);
        }
        checks.throwsDue("9 seams(7, 0)", () -> b.seams(7, 0, true), NO_INDEX);
        checks.throwsDue("9 seams(0, -1)", () -> b.seams(0, -1, true), NO_INDEX);
    }

    private void promise10Matches() {
        checks.due("10 matches of the ring", Texts.board(RING).matches(), 3);
        checks.due("10 matches of nothing", new TangramBoard().matches(), 0);
        checks.due("10 a corner in common", Texts.board(HOURGLASS).matches(), 0);
        // Each of the small triangles lies along one half of a side of piece 0, and along a whole side of the other.
        TangramBoard b = Texts.board("board 8 8; piece 0 at 0 0 turn 0; piece 5 at 0 0 turn 3; piece 6 at 0 1 turn 2;");
        checks.due("10 matches of half sides", b.matches(), 1);
        checks.due("10 their seams", b.seams(0, 5, false), 2);
        b.takeOff(5);
        checks.due("10 matches beside an off piece", b.matches(), 0);
        checks.due("10 the same direction or not", Texts.board("board 4 4; piece 5 at 0 0 turn 2; "
            + "piece 6 at 0 1 turn 0;").matches(), 1);
    }

    private void promise11Inner() {
        TangramBoard b = Texts.board(SQUARE);
        checks.due("11 inner() of nothing", b.inner(), 0);
        b.solve(0);
        // The first way: the diamond and the small triangle in the middle of the square have no border.
        checks.due("11 inner()", b.inner(), 8 + 32);
        checks.due("11 inner() of the ring", Texts.board(RING).inner(), 0);
        b.takeOff(3);
        checks.due("11 inner() beside a hole", b.inner(), 0);
        // The parallelogram and the small triangle lie along the long side of piece 0, pieces 1 and 2 along the others.
        TangramBoard large = Texts.board("board 8 8; piece 0 at 2 2 turn 0; piece 5 at 2 1 turn 2; "
            + "piece 4 at 3 1 turn 0; piece 2 at 2 2 turn 3; piece 1 at 4 2 turn 1;");
        checks.due("11 inner() round piece 0", large.inner(), 1);
    }

    private void promise12Loop() {
        TangramBoard b = Texts.board(RING);
        int[][] wanted = {{7, 6, 10, 0, 6, 0}, {3, 2, 2, 1, 8, 2}};
        for (int loop = 0; loop < 2; loop++) {
            for (int what = 0; what < 6; what++) {
                checks.due("12 loop(" + loop + ", " + what + ")", b.loop(loop, what), wanted[loop][what]);
            }
        }
        checks.throwsDue("12 loop(2, 9)", () -> b.loop(2, 9), NO_ELEMENT);
        checks.throwsDue("12 loop(-1, 0)", () -> b.loop(-1, 0), NO_ELEMENT);
        checks.throwsDue("12 loop(0, 6)", () -> b.loop(0, 6), BAD);
        checks.throwsDue("12 loop(0, -1)", () -> b.loop(0, -1), BAD);
        TangramBoard hourglass = Texts.board(HOURGLASS);
        checks.due("12 the second loop", hourglass.loop(1, 4) + " " + hourglass.loop(1, 5), "4 4");
    }

    private void edges(TangramBoard b, int loop, int[][] wanted) {
        for (int edge = 0; edge < wanted.length; edge++) {
            for (int what = 0; what < 5; what++) {
                checks.due("13 edge(" + loop + ", " + edge + ", " + what + ")", b.edge(loop, edge, what),
                    wanted[edge][what]);
            }
        }
    }

    private void promise13Edge() {
        TangramBoard b = Texts.board(RING);
        edges(b, 0, new int[][] {{0, 2, 6, 0, 1}, {2, 2, 10, 0, 2}, {3, 2, 10, 4, 1}, {2, 1, 8, 6, -1},
            {5, 4, 8, 8, 3}, {4, 1, 4, 4, -1}, {7, 4, 2, 4, 3}});
        edges(b, 1, new int[][] {{3, 2, 8, 2, -3}, {0, 1, 6, 4, -3}, {6, 1, 8, 4, -2}});
        checks.throwsDue("13 edge(2, 0, 0)", () -> b.edge(2, 0, 0), NO_ELEMENT);
        checks.throwsDue("13 edge(-1, 0, 9)", () -> b.edge(-1, 0, 9), NO_ELEMENT);
        checks.throwsDue("13 edge(1, 3, 9)", () -> b.edge(1, 3, 9), NO_ELEMENT);
        checks.throwsDue("13 edge(0, -1, 0)", () -> b.edge(0, -1, 0), NO_ELEMENT);
        checks.throwsDue("13 edge(0, 0, 5)", () -> b.edge(0, 0, 5), BAD);
        checks.throwsDue("13 edge(0, 0, -1)", () -> b.edge(0, 0, -1), BAD);
        // The loop comes to (6, 8) southwards and leaves it north-westwards, later it goes on there eastwards.
        edges(Texts.board(PINCH), 0, new int[][] {{1, 2, 4, 2, 3}, {2, 2, 6, 4, 1}, {5, 2, 6, 8, 3},
            {2, 1, 4, 6, -3}, {0, 2, 4, 8, -2}, {2, 2, 8, 8, 2}, {5, 2, 8, 12, 3}, {3, 2, 6, 10, -2},
            {5, 2, 4, 12, 2}, {6, 2, 2, 10, 1}, {7, 2, 2, 6, 1}, {6, 1, 4, 4, -1}});
        edges(Texts.board(HOURGLASS), 1, new int[][] {{1, 4, 4, 4, 2}, {4, 4, 8, 8, 3}, {7, 4, 0, 8, 3}});
    }

    private void promise14Perimeter() {
        checks.due("14 perimeter()", Texts.board(RING).perimeter(), 8.0 + 12.0 * 0.7071067811865476);
        checks.due("14 perimeter() of nothing", new TangramBoard().perimeter(), 0.0);
        checks.due("14 perimeter() of a diamond", Texts.board("board 4 4; piece 3 at 0 0 turn 0;").perimeter(),
            8.0 * 0.7071067811865476);
    }

    private void promise15Fullness() {
        checks.due("15 fullness()", Texts.board(RING).fullness(), 0.5f);
        checks.due("15 fullness() of nothing", new TangramBoard().fullness(), 0.0f);
        TangramBoard b = Texts.board("board 12 12; piece 4 at 5 11 turn 0; piece 5 at 0 0 turn 0;");
        checks.due("15 fullness()", b.fullness(), 12f / (4 * 8 * 12));
    }

    private void promise16Looks() {
        checks.due("16 looks() of nothing", new TangramBoard().looks(), 0);
        checks.due("16 looks() of a diamond", Texts.board("board 4 4; piece 3 at 1 2 turn 0;").looks(), 1);
        checks.due("16 looks() of the hourglass", Texts.board(HOURGLASS).looks(), 2);
        checks.due("16 looks() of a parallelogram", Texts.board("board 4 4; piece 4 at 0 0 turn 0;").looks(), 4);
        checks.due("16 looks() of the ring", Texts.board(RING).looks(), 8);
    }

    private void promise17IsSimple() {
        checks.due("17 nothing", new TangramBoard().isSimple(), false);
        checks.due("17 one piece", Texts.board("board 4 4; piece 4 at 0 0 turn 0;").isSimple(), true);
        checks.due("17 a hole", Texts.board(RING).isSimple(), false);
        checks.due("17 two parts that touch", Texts.board(HOURGLASS).isSimple(), false);
        checks.due("17 two parts", Texts.board("board 8 8; piece 5 at 0 0 turn 0; piece 6 at 5 5 turn 0;").isSimple(),
            false);
        checks.due("17 a point twice", Texts.board(PINCH).isSimple(), false);
        checks.due("17 the pinch's parts", Texts.board(PINCH).size(4), 1);
    }

    private void promise18Shape() {
        TangramBoard b = Texts.board("board 12 12; shape 3 2 e 2 se 1 s 1 w 3 n 2; shape 12 12 w 12 n 12 e 12 s 12;");
        int[][] wanted = {{22, 3, 2, 3, 2}, {576, 0, 0, 12, 12}};
        for (int shape = 0; shape < 2; shape++) {
            for (int what = 0; what < 5; what++) {
                checks.due("18 shape(" + shape + ", " + what + ")", b.shape(shape, what), wanted[shape][what]);
            }
        }
        checks.throwsDue("18 shape(2, 9)", () -> b.shape(2, 9), NO_INDEX);
        checks.throwsDue("18 shape(-1, 0)", () -> b.shape(-1, 0), NO_INDEX);
        checks.throwsDue("18 shape(0, 5)", () -> b.shape(0, 5), BAD);
        checks.throwsDue("18 shape(0, -1)", () -> b.shape(0, -1), BAD);
    }

    private void promise19HasQuarter() {
        TangramBoard b = Texts.board("board 4 4; shape 3 3 e 1 s 1 nw 1;");
        boolean[] wanted = {true, true, false, false};
        for (int k = 0; k < 4; k++) {
            checks.due("19 quarter " + k, b.hasQuarter(0, quarter(3, 3, k)), wanted[k]);
        }
        for (int none : new int[] {-1, quarter(4, 3, 0), 576, Integer.MIN_VALUE, Integer.MAX_VALUE}) {
            checks.due("19 hasQuarter(0, " + none + ")", b.hasQuarter(0, none), false);
        }
        checks.throwsDue("19 hasQuarter(1, 0)", () -> b.hasQuarter(1, 0), NO_INDEX);
        checks.throwsDue("19 hasQuarter(-1, 0)", () -> b.hasQuarter(-1, 0), NO_INDEX);
    }

    /** The parallelogram, as it is told by text: flipped, turned, shifted, itself; and two other shapes. */
    private static final String LIKENESSES = "board 8 8; piece 4 at 0 0 turn 0; "
        + "shape 0 0 e 2 s 2 w 2 n 2; shape 2 5 w 2 ne 1 e 2 sw 1; shape 3 3 s 2 sw 1 n 2 ne 1;"
        + "shape 5 1 e 2 se 1 w 2 nw 1; shape 0 0 e 2 se 1 w 2 nw 1; shape 7 7 n 2 sw 1 s 1 e 1;";

    private void promise20Alike() {
        TangramBoard b = Texts.board(LIKENESSES);
        int[] wanted = {0, 4, 3, 2, 1, 0};
        for (int shape = 0; shape < wanted.length; shape++) {
            checks.due("20 alike(" + shape + ")", b.alike(shape), wanted[shape]);
        }
        b.takeOff(4);
        checks.due("20 alike(4) of nothing", b.alike(4), 0);
        checks.throwsDue("20 alike(6)", () -> b.alike(6), NO_INDEX);
        checks.throwsDue("20 alike(-1)", () -> b.alike(-1), NO_INDEX);
    }

    private void promise21Find() {
        TangramBoard b = Texts.board(LIKENESSES);
        checks.due("21 find()", b.find(), 1);
        b.remove(1);
        b.remove(1);
        checks.due("21 find()", b.find(), 1);
        b.remove(1);
        b.remove(1);
        checks.due("21 find()", b.find(), -1);
        checks.due("21 find() of nothing", Texts.board(SQUARE).find(), -1);
    }

    private void promise22Kinds() {
        TangramBoard b = Texts.board(LIKENESSES);
        checks.due("22 kinds()", b.kinds(), 3);
        b.remove(0);
        checks.due("22 kinds()", b.kinds(), 2);
        checks.due("22 kinds() of nothing", new TangramBoard().kinds(), 0);
    }

    private void promise23Missing() {
        TangramBoard b = Texts.board(LIKENESSES);
        checks.due("23 the square", b.missing(0), 16 + 8 - 2 * 6);
        checks.due("23 itself", b.missing(4), 0);
        b.takeOff(4);
        checks.due("23 nothing", b.missing(0), 16);
        checks.throwsDue("23 missing(6)", () -> b.missing(6), NO_INDEX);
        checks.throwsDue("23 missing(-1)", () -> b.missing(-1), NO_INDEX);
    }

    private void promise24Ways() {
        // The one way to fill the square has eight looks.
        checks.due("24 the square", Texts.board(SQUARE).ways(0), 8);
        TangramBoard b = Texts.board("board 12 12; shape 0 0 e 8 s 2 w 8 n 2; shape 0 0 e 4 s 4 w 3 n 1 w 1 n 3; "
            + "shape 0 0 e 12 s 12 w 12 n 12;");
        checks.due("24 a long rectangle", b.ways(0), 0);
        checks.due("24 too few quarters", b.ways(1), 0);
        checks.due("24 too many quarters", b.ways(2), 0);
        checks.throwsDue("24 ways(3)", () -> b.ways(3), NO_INDEX);
        checks.throwsDue("24 ways(-1)", () -> b.ways(-1), NO_INDEX);
        // Pieces that lie far from each other can only change with their twins: this is one way.
        TangramBoard apart = Texts.board("board 12 12; piece 0 at 0 0 turn 0; piece 1 at 0 10 turn 2; "
            + "piece 2 at 5 0 turn 0; piece 3 at 5 5 turn 0; piece 4 at 8 0 turn 0; piece 5 at 0 5 turn 0; "
            + "piece 6 at 9 9 turn 1;");
        apart.keep();
        checks.due("24 pieces apart", apart.ways(0), 1);
    }

    private void promise25FirstWay() {
        TangramBoard b = Texts.board(SQUARE + "shape 0 0 e 1 s 1 w 1 n 1;");
        // Piece 0 fills the upper side, piece 1 the left one; the right one is left to the pieces 4, 5 and 2.
        int[][] wanted = {{0, 0, 0, 0}, {0, 0, 3, 0}, {2, 2, 1, 1}, {1, 2, 0, 0}, {3, 0, 1, 0}, {2, 1, 1, 0},
            {0, 3, 2, 0}};
        for (int piece = 0; piece < 7; piece++) {
            for (int what = 0; what < 4; what++) {
                checks.due("25 firstWay(0, " + piece + ", " + what + ")", b.firstWay(0, piece, what),
                    wanted[piece][what]);
                checks.due("25 no way", b.firstWay(1, piece, what), -1);
            }
        }
        checks.throwsDue("25 no shape", () -> b.firstWay(2, 0, 9), NO_INDEX);
        checks.throwsDue("25 no piece", () -> b.firstWay(0, 7, 9), NO_INDEX);
        checks.throwsDue("25 no piece", () -> b.firstWay(0, -1, 0), NO_INDEX);
        checks.throwsDue("25 what 4", () -> b.firstWay(1, 0, 4), BAD);
        checks.throwsDue("25 what -1", () -> b.firstWay(0, 0, -1), BAD);
    }

    private void promise26Place() {
        TangramBoard b = Texts.board("board 6 4; piece 1 at 0 0 turn 0;");
        checks.due("26 place", b.place(5, 0, 0, 3, true), 20);
        checks.due("26 place it elsewhere", b.place(5, 4, 3, 2, true), 20);
        checks.due("26 piece(5, 3)", b.piece(5, 3), 1);
        checks.due("26 refused: out of the board", b.place(5, 5, 0, 0, false), -1);
        checks.due("26 refused: overlaps", b.place(0, 0, 0, 1, false), -3);
        checks.due("26 size(9)", b.size(9), 2);
        checks.due("26 at its place again", b.place(5, 4, 3, 2, true), 20);
        checks.due("26 it is a change", b.size(9), 3);
        checks.throwsDue("26 no piece", () -> b.place(7, 0, 0, 9, false), NO_INDEX);
        checks.throwsDue("26 turn 4", () -> b.place(0, 99, 0, 4, false), BAD);
        checks.throwsDue("26 turn -1", () -> b.place(0, 0, 0, -1, false), BAD);
        checks.due("26 size(9)", b.size(9), 3);
    }

    private void promise27TakeOff() {
        TangramBoard b = Texts.board(RING);
        checks.due("27 takeOff(6)", b.takeOff(6), true);
        checks.due("27 takeOff(6) again", b.takeOff(6), false);
        checks.due("27 both are changes", b.size(9), 2);
        checks.due("27 piece(6, 0)", b.piece(6, 0), -1);
        checks.due("27 size(3)", b.size(3), 28);
        checks.throwsDue("27 takeOff(7)", () -> b.takeOff(7), NO_INDEX);
        checks.throwsDue("27 takeOff(-1)", () -> b.takeOff(-1), NO_INDEX);
    }

    private void promise28Turn() {
        TangramBoard b = Texts.board("board 5 4; piece 0 at 0 0 turn 0; piece 5 at 4 2 turn 3;");
        checks.due("28 turn(5), over the rim", b.turn(5), -1);
        checks.due("28 turn(6), off", b.turn(6), -1);
        checks.due("28 size(9)", b.size(9), 0);
        b.takeOff(5);
        int[] turns = {1, 2, 3, 0};
        for (int turn : turns) {
            checks.due("28 turn(0)", b.turn(0), turn);
            checks.due("28 piece(0, 4)", b.piece(0, 4), turn % 2 == 1 ? 2 : 4);
        }
        b.place(1, 0, 2, 2, false);
        checks.due("28 turn(0), overlaps", b.turn(0), -1);
        checks.due("28 piece(0, 2)", b.piece(0, 2), 0);
        TangramBoard flipped = Texts.board("board 4 4; piece 4 at 1 0 turn 0 flip;");
        flipped.turn(4);
        checks.due("28 it stays flipped", flipped.piece(4, 3), 1);
        checks.due("28 its corner stays", flipped.piece(4, 0) + " " + flipped.piece(4, 1), "1 0");
        checks.throwsDue("28 turn(7)", () -> b.turn(7), NO_INDEX);
        checks.throwsDue("28 turn(-1)", () -> b.turn(-1), NO_INDEX);
    }

    private void promise29Flip() {
        TangramBoard b = Texts.board("board 4 4; piece 4 at 0 0 turn 1; piece 5 at 0 2 turn 1;");
        checks.due("29 flip(4), overlaps", b.flip(4), -1);
        checks.due("29 flip(6), off", b.flip(6), -1);
        checks.due("29 size(9)", b.size(9), 0);
        b.takeOff(5);
        checks.due("29 flip(4)", b.flip(4), 1);
        checks.due("29 its turn", b.piece(4, 2), 1);
        checks.due("29 its first cell", cell(b, 0, 0), "0011");
        checks.due("29 flip(4) again", b.flip(4), 0);
        checks.throwsDue("29 flip(7)", () -> b.flip(7), NO_INDEX);
        checks.throwsDue("29 flip(-1)", () -> b.flip(-1), NO_INDEX);
    }

    private void promise30Shift() {
        TangramBoard b = Texts.board(RING);
        checks.due("30 shift(-1, 0)", b.shift(-1, 0), true);
        checks.due("30 piece(5, 0)", b.piece(5, 0), 0);
        checks.due("30 shift(-1, 0)", b.shift(-1, 0), false);
        checks.due("30 shift(0, -1)", b.shift(0, -1), false);
        checks.due("30 shift(4, 4)", b.shift(4, 4), true);
        checks.due("30 piece(2, 1)", b.piece(2, 1), 6);
        checks.due("30 shift(1, 0)", b.shift(1, 0), false);
        checks.due("30 shift(0, 1)", b.shift(0, 1), false);
        for (int far : new int[] {Integer.MAX_VALUE, Integer.MIN_VALUE}) {
            checks.due("30 shift far", b.shift(far, 0) || b.shift(0, far) || b.shift(far, far), false);
        }
        checks.due("30 shift(0, 0)", b.shift(0, 0), true);
        checks.due("30 size(9)", b.size(9), 3);
        checks.due("30 nothing is shifted", new TangramBoard().shift(99, Integer.MIN_VALUE), true);
    }

    private void promise31Keep() {
        TangramBoard b = Texts.board("board 4 4;");
        checks.due("31 keep() of nothing", b.keep(), -1);
        b.place(3, 1, 1, 0, false);
        for (int shape = 0; shape < 8; shape++) {
            checks.due("31 keep()", b.keep(), shape);
        }
        checks.due("31 keep() of a 9th", b.keep(), -1);
        checks.due("31 size(8)", b.size(8), 8);
        b.takeOff(3);
        checks.due("31 a shape stays", b.shape(7, 0) + " " + b.shape(7, 1) + " " + b.shape(7, 3), "8 1 2");
        checks.due("31 hasQuarter", b.hasQuarter(7, quarter(1, 1, 1)), true);
    }

    private void promise32Remove() {
        TangramBoard b = Texts.board("board 4 4; shape 0 0 e1s1w1n1; shape 0 0 e2s1w2n1; shape 0 0 e3s1w3n1;");
        checks.throwsDue("32 remove(3)", () -> b.remove(3), NO_INDEX);
        checks.throwsDue("32 remove(-1)", () -> b.remove(-1), NO_INDEX);
        checks.due("32 remove(1)", b.remove(1), 2);
        checks.due("32 the ones behind", b.shape(0, 3) + " " + b.shape(1, 3), "1 3");
        checks.due("32 remove(1)", b.remove(1), 1);
        checks.due("32 remove(0)", b.remove(0), 0);
        b.undo();
        b.undo();
        checks.due("32 undone", b.shape(0, 3) + " " + b.shape(1, 3), "1 3");
    }

    private void promise33Solve() {
        TangramBoard b = Texts.board(SQUARE + "shape 0 0 e 1 s 1 w 1 n 1; piece 6 at 3 0 turn 0;");
        checks.due("33 solve(1)", b.solve(1), false);
        checks.due("33 size(2)", b.size(2), 1);
        checks.due("33 size(9)", b.size(9), 0);
        checks.due("33 solve(0)", b.solve(0), true);
        checks.due("33 size(2)", b.size(2), 7);
        checks.due("33 missing(0)", b.missing(0), 0);
        for (int piece = 0; piece < 7; piece++) {
            for (int what = 0; what < 4; what++) {
                checks.due("33 piece", b.piece(piece, what), b.firstWay(0, piece, what));
            }
        }
        checks.due("33 undo()", b.undo(), 0);
        checks.due("33 piece(6, 0)", b.piece(6, 0), 3);
        checks.throwsDue("33 solve(2)", () -> b.solve(2), NO_INDEX);
        checks.throwsDue("33 solve(-1)", () -> b.solve(-1), NO_INDEX);
    }

    private void promise34Undo() {
        TangramBoard b = Texts.board("board 8 8; shape 0 0 e1s1w1n1;");
        long[] sums = new long[11];
        sums[0] = b.checksum();
        for (int i = 1; i <= 10; i++) {
            if (i % 3 == 0) {
                b.keep();
            } else if (i % 3 == 1) {
                b.place(5, i % 6, i % 7, i % 4, i > 5);
            } else {
                b.remove(0);
            }
            sums[i] = b.checksum();
            checks.due("34 size(9)", b.size(9), Math.min(8, i));
        }
        for (int i = 9; i >= 2; i--) {
            checks.due("34 undo()", b.undo(), i - 2);
            checks.due("34 checksum()", b.checksum(), sums[i]);
        }
        checks.due("34 undo() of a ninth", b.undo(), -1);
        checks.due("34 checksum()", b.checksum(), sums[2]);
        b.place(6, 0, 0, 0, false);
        checks.due("34 undo() of a new change", b.undo(), 0);
    }

    private void promise35SaveSnapshot() {
        TangramBoard b = new TangramBoard();
        checks.due("35 saveSnapshot(1)", b.saveSnapshot(1), false);
        checks.due("35 saveSnapshot(0)", b.saveSnapshot(0), false);
        checks.due("35 saveSnapshot(1)", b.saveSnapshot(1), true);
        checks.due("35 it is no change", b.size(9), 0);
        checks.throwsDue("35 saveSnapshot(2)", () -> b.saveSnapshot(2), BAD);
        checks.throwsDue("35 saveSnapshot(-1)", () -> b.saveSnapshot(-1), BAD);
    }

    private void promise36RestoreSnapshot() {
        TangramBoard b = Texts.board(RING);
        b.append(0, 0, 0, 0, 0);
        b.keep();
        long before = b.checksum();
        b.saveSnapshot(1);
        b.takeOff(2);
        b.remove(0);
        checks.throwsDue("36 restoreSnapshot(0)", () -> b.restoreSnapshot(0), IllegalStateException.class);
        checks.throwsDue("36 restoreSnapshot(2)", () -> b.restoreSnapshot(2), BAD);
        checks.throwsDue("36 restoreSnapshot(-1)", () -> b.restoreSnapshot(-1), BAD);
        checks.due("36 size(9)", b.size(9), 3);
        checks.due("36 restoreSnapshot(1)", b.restoreSnapshot(1), 5);
        checks.due("36 checksum()", b.checksum(), before);
        checks.due("36 undo()", b.undo(), -1);
        checks.due("36 the buffer", b.size(10), 20);
        b.shift(1, 1);
        checks.due("36 it stays stored", b.restoreSnapshot(1), 5);
        checks.due("36 checksum()", b.checksum(), before);
    }

    private void promise37Checksum() {
        long sum = 0;
        sum = 31 * sum + 8;
        sum = 31 * sum + 8;
        for (int i = 0; i < 7; i++) {
            sum *= 31;
        }
        for (int i = 0; i < 7 * 4 + 8 * 8 * 4; i++) {
            sum = 31 * sum - 1;
        }
        checks.due("37 checksum() of a new object", new TangramBoard().checksum(), sum);
        checks.due("37 checksum() of the ring", Texts.board(RING).checksum(), sumOfRing());
    }

    /** The ring's numbers as the tests above have them; it has no shape. */
    private static long sumOfRing() {
        int[] sizesAndPieces = {8, 8, 5, 32, 1, 2, 1, 10, 0, -1, -1, -1, -1, -1, -1, -1, -1,
            2, 2, 1, 0, 2, 0, 0, 0, 4, 0, 1, 0, 1, 1, 2, 0, 3, 0, 0, 0};
        // The board's rows, a cell in four signs: its upper, right, lower and left quarter.
        String none = "....";
        String[] rows = {
            none + "...." + ".33." + "6633" + "6446" + none + none + none,
            none + ".55." + "3355" + "3..3" + "4444" + none + none + none,
            none + "...." + "22.." + "2222" + "4..4" + none + none + none,
            none + "...." + "...." + "22.." + "...." + none + none + none,
        };
        int[] loops = {7, 6, 10, 0, 6, 0, 3, 2, 2, 1, 8, 2};
        long sum = 0;
        for (int n : sizesAndPieces) {
            sum = 31 * sum + n;
        }
        for (int i = 0; i < 8 * 8 * 4; i++) {
            char sign = i / 32 < rows.length ? rows[i / 32].charAt(i % 32) : '.';
            sum = 31 * sum + (sign == '.' ? -1 : sign - '0');
        }
        for (int n : loops) {
            sum = 31 * sum + n;
        }
        return sum;
    }
}
