import java.util.NoSuchElementException;

/** The boundary cases of the promises 4 to 25, which ask and change nothing, sentence by sentence. */
public final class QuestionBoundaryTest {
    private static final Class<IllegalArgumentException> BAD = IllegalArgumentException.class;
    private static final Class<IndexOutOfBoundsException> NO_INDEX = IndexOutOfBoundsException.class;
    private static final Class<NoSuchElementException> NO_ELEMENT = NoSuchElementException.class;
    private static final int[] NO_PIECES = {Integer.MIN_VALUE, -7, -1, 7, 8, Integer.MAX_VALUE};
    private static final int[] NO_SHAPES = {Integer.MIN_VALUE, -1, 8, 9, Integer.MAX_VALUE};

    /** All seven pieces, none of which touches another one. */
    private static final String APART = "board 12 12; piece 0 at 0 0 turn 0; piece 1 at 0 10 turn 2; "
        + "piece 2 at 5 0 turn 0; piece 3 at 5 5 turn 0; piece 4 at 8 0 turn 0; piece 5 at 0 5 turn 0; "
        + "piece 6 at 9 9 turn 1;";
    /** Two triangles that touch at the point (1, 0), in cells, which is the first corner of both. */
    private static final String ONE_POINT = "board 4 4; piece 5 at 1 0 turn 0; piece 6 at 0 0 turn 1;";
    private static final String SQUARE = "board 4 4; shape 0 0 e 4 s 4 w 4 n 4;";

    private final Checks checks = new Checks();

    public static void main(String[] args) {
        QuestionBoundaryTest test = new QuestionBoundaryTest();
        test.size();
        test.piece();
        test.forms();
        test.pieceAt();
        test.whyNotAtTheRims();
        test.whyNotOverOthers();
        test.places();
        test.seams();
        test.matches();
        test.inner();
        test.loop();
        test.edge();
        test.edgesAtTheLastCorner();
        test.orderOfLoops();
        test.perimeterAndFullness();
        test.looks();
        test.isSimple();
        test.shape();
        test.hasQuarter();
        test.alike();
        test.alikeFromRimToRim();
        test.findAndKinds();
        test.missing();
        test.ways();
        test.waysOfOtherShapes();
        test.firstWay();
        test.nothingChanges();
        test.checks.end();
    }

    private static int quarter(int x, int y, int k) {
        return 4 * (12 * y + x) + k;
    }

    /** The square, filled in the first way: the board of 4 by 4 cells is full. */
    private static TangramBoard full() {
        TangramBoard b = Texts.board(SQUARE);
        b.solve(0);
        return b;
    }

    /** One number for each what, from 0. */
    private void numbers(String name, int[] wanted, java.util.function.IntUnaryOperator got) {
        for (int what = 0; what < wanted.length; what++) {
            checks.due(name + " " + what, got.applyAsInt(what), wanted[what]);
        }
    }

    private void badWhats(String name, int most, java.util.function.IntUnaryOperator got) {
        for (int what : new int[] {Integer.MIN_VALUE, -2, -1, most + 1, most + 2, Integer.MAX_VALUE}) {
            checks.throwsDue(name + ", what " + what, () -> got.applyAsInt(what), BAD);
        }
        checks.due(name + ", what 0", Checks.answerOf(() -> got.applyAsInt(0)) instanceof Integer, true);
        checks.due(name + ", the last what", Checks.answerOf(() -> got.applyAsInt(most)) instanceof Integer, true);
    }

    // ---- promise 4

    private void size() {
        badWhats("4 size", 10, new TangramBoard()::size);
        numbers("4 size of nothing", new int[] {4, 4, 0, 0, 0, 0, 0, 0, 0, 0, 0}, Texts.board("board 4 4;")::size);
        int[] apart = {12, 12, 7, 64, 7, 7, 0, 23, 0, 0, 0};
        numbers("4 size of all pieces, apart", apart, Texts.board(APART)::size);
        TangramBoard b = full();
        numbers("4 size of a full board", new int[] {4, 4, 7, 64, 1, 1, 0, 4, 1, 1, 0}, b::size);
        for (int i = 0; i < 35; i++) {
            b.append(0, 0, 0, 0, 0);
        }
        for (int i = 0; i < 9; i++) {
            b.keep();
        }
        numbers("4 size, all full", new int[] {4, 4, 7, 64, 1, 1, 0, 4, 8, 8, 700}, b::size);
        // Parts are connected by sides, be they long or short, but not by corners.
        parts("at a long side", "board 4 4; piece 5 at 0 0 turn 2; piece 6 at 0 1 turn 0;", 1);
        parts("at a short side", "board 4 4; piece 3 at 0 0 turn 0; piece 5 at 1 0 turn 0;", 1);
        parts("at a point", ONE_POINT, 2);
        parts("at a point, below each other", "board 4 4; piece 5 at 0 0 turn 0; piece 6 at 0 1 turn 2;", 2);
    }

    private void parts(String name, String text, int wanted) {
        checks.due("4 parts " + name, Texts.board(text).size(4), wanted);
    }

    // ---- promise 5

    private void piece() {
        TangramBoard b = Texts.board("board 12 12; piece 4 at 0 0 turn 0; piece 5 at 11 10 turn 3 flip;");
        numbers("5 piece 4", new int[] {0, 0, 0, 0, 3, 1, 8, 4}, what -> b.piece(4, what));
        numbers("5 piece 5", new int[] {11, 10, 3, 1, 1, 2, 4, 4}, what -> b.piece(5, what));
        b.turn(4);
        numbers("5 piece 4, turned", new int[] {0, 0, 1, 0, 1, 3, 8, 4}, what -> b.piece(4, what));
        b.takeOff(4);
        numbers("5 piece 4, off again", new int[] {-1, -1, -1, -1, 3, 1, 8, 4}, what -> b.piece(4, what));
        for (int piece = 0; piece < 7; piece++) {
            int p = piece;
            badWhats("5 piece " + p, 7, what -> b.piece(p, what));
        }
        for (int none : NO_PIECES) {
            checks.throwsDue("5 piece " + none, () -> b.piece(none, 0), NO_INDEX);
            checks.throwsDue("5 piece " + none + ", what 8", () -> b.piece(none, 8), NO_INDEX);
            checks.throwsDue("5 piece " + none + ", what -1", () -> b.piece(none, -1), NO_INDEX);
        }
    }

    /** Which quarters of a cell a piece covers. */
    private static String cell(TangramBoard b, int x, int y) {
        StringBuilder text = new StringBuilder();
        for (int k = 0; k < 4; k++) {
            text.append(b.pieceAt(quarter(x, y, k)) == -1 ? "" : k);
        }
        return text.append(' ').toString();
    }

    /** The cells of a piece's box, row by row, for each turn, not flipped and flipped. */
    private void form(int piece, String[] wanted) {
        for (int form = 0; form < 8; form++) {
            TangramBoard b = Texts.board("board 12 12; piece " + piece + " at 7 5 turn " + form / 2
                + (form % 2 == 1 ? " flip;" : ";"));
            StringBuilder got = new StringBuilder();
            for (int y = 5; y < 5 + b.piece(piece, 5); y++) {
                for (int x = 7; x < 7 + b.piece(piece, 4); x++) {
                    got.append(cell(b, x, y));
                }
            }
            String name = "5 the quarters of piece " + piece + ", form " + form;
            checks.due(name, got.toString().trim(), wanted[form].trim());
            checks.due(name + ", their number", b.size(3), b.piece(piece, 6));
        }
    }

    // A piece is flipped first, then turned: this shows with the pieces 2 and 4.
    private void forms() {
        String down = "01 0123 0123 03  01 03 ";
        String up = " 12 23  12 0123 0123 23";
        String left = " 12 12 0123 01 0123  01";
        String right = "23  0123 23 0123 03 03 ";
        for (int piece = 0; piece < 2; piece++) {
            form(piece, new String[] {down, down, left, left, up, up, right, right});
        }
        String[] corner = {"0123 03 03 ", "01 0123  01", " 12 12 0123", "23  0123 23"};
        form(2, new String[] {corner[0], corner[1], corner[1], corner[2], corner[2], corner[3], corner[3], corner[0]});
        String diamond = "12 23 01 03";
        form(3, new String[] {diamond, diamond, diamond, diamond, diamond, diamond, diamond, diamond});
        String[] slant = {"01 0123 23", "12 0123 03", "12 0123 03", "23 0123 01"};
        form(4, new String[] {slant[0], slant[1], slant[2], slant[3], slant[0], slant[1], slant[2], slant[3]});
        for (int piece = 5; piece < 7; piece++) {
            form(piece, new String[] {"01 03", "01 03", "12 01", "12 01", "12 23", "12 23", "23 03", "23 03"});
        }
    }

    // ---- promise 6

    private void pieceAt() {
        TangramBoard b = full();
        for (int q = -60; q < 640; q++) {
            boolean isOnBoard = q >= 0 && q / 48 < 4 && q / 4 % 12 < 4;
            checks.due("6 pieceAt(" + q + ") of a full board", b.pieceAt(q) != -1, isOnBoard);
        }
        // The first and the last quarters of the greatest board.
        TangramBoard corners = Texts.board("board 12 12; piece 2 at 0 0 turn 0; piece 0 at 8 10 turn 2;");
        int[][] wanted = {{-1, -1}, {0, 2}, {1, 2}, {575, 0}, {574, 0}, {573, -1}, {576, -1}, {-576, -1},
            {Integer.MIN_VALUE, -1}, {Integer.MAX_VALUE, -1}, {quarter(10, 11, 2), 0}};
        for (int[] w : wanted) {
            checks.due("6 pieceAt(" + w[0] + ")", corners.pieceAt(w[0]), w[1]);
        }
        corners.takeOff(2);
        checks.due("6 pieceAt(0) of none", corners.pieceAt(0), -1);
    }

    // ---- promise 7

    private void whyNotAtTheRims() {
        TangramBoard b = Texts.board("board 9 6;");
        int[][] boxes = {{4, 2}, {4, 2}, {2, 2}, {2, 2}, {3, 1}, {2, 1}, {2, 1}};
        for (int piece = 0; piece < 7; piece++) {
            for (int form = 0; form < 8; form++) {
                int x = 9 - boxes[piece][form / 2 % 2];
                int y = 6 - boxes[piece][1 - form / 2 % 2];
                // x, y, and whether the box does not lie on the board
                int[][] spots = {{0, 0, 0}, {x, y, 0}, {x, 0, 0}, {0, y, 0}, {x + 1, 0, 1}, {0, y + 1, 1}, {-1, 0, 1},
                    {0, -1, 1}, {Integer.MAX_VALUE, 0, 1}, {0, Integer.MAX_VALUE, 1}, {Integer.MIN_VALUE, 0, 1},
                    {0, Integer.MIN_VALUE, 1}, {Integer.MAX_VALUE - 3, Integer.MAX_VALUE - 3, 1}, {9, 0, 1}, {0, 6, 1}};
                for (int[] s : spots) {
                    checks.due("7 whyNot of " + piece + " at " + s[0] + " " + s[1] + ", form " + form,
                        b.whyNot(piece, s[0], s[1], form / 2, form % 2 == 1), s[2]);
                }
            }
        }
        for (int turn : new int[] {Integer.MIN_VALUE, -4, -1, 4, 5, Integer.MAX_VALUE}) {
            checks.throwsDue("7 turn " + turn, () -> b.whyNot(0, 0, 0, turn, false), BAD);
            checks.throwsDue("7 turn " + turn + " beyond the rim", () -> b.whyNot(6, -1, 99, turn, true), BAD);
            checks.throwsDue("7 no piece, turn " + turn, () -> b.whyNot(7, 0, 0, turn, true), NO_INDEX);
        }
        for (int none : NO_PIECES) {
            checks.throwsDue("7 piece " + none, () -> b.whyNot(none, 0, 0, 0, false), NO_INDEX);
        }
    }

    private void whyNotOverOthers() {
        TangramBoard b = full();
        int[][] places = {{0, 0, 0, 0}, {0, 0, 3, 0}, {2, 2, 1, 1}, {1, 2, 0, 0}, {3, 0, 1, 0}, {2, 1, 1, 0},
            {0, 3, 2, 0}};
        for (int piece = 0; piece < 7; piece++) {
            int[] p = places[piece];
            checks.due("7 piece " + piece + " at its own place", b.whyNot(piece, p[0], p[1], p[2], p[3] == 1), 0);
        }
        checks.due("7 over piece 0", b.whyNot(1, 0, 0, 0, false), 2);
        checks.due("7 over piece 6", b.whyNot(5, 0, 3, 2, false), 8);
        checks.due("7 over the pieces 1 and 6, and itself", b.whyNot(3, 0, 2, 0, false), 3);
        checks.due("7 over itself and piece 1", b.whyNot(0, 0, 0, 1, false), 3);
        checks.due("7 the rim counts first", b.whyNot(0, 1, 0, 0, false), 1);
        b.takeOff(0);
        checks.due("7 an off piece hinders none", b.whyNot(1, 0, 0, 0, false), 0);
        checks.due("7 it can be placed where it was", b.whyNot(0, 0, 0, 0, true), 0);
        // Both cover quarters of the cell (1, 1), but not the same ones.
        TangramBoard cell = Texts.board("board 4 4; piece 2 at 0 0 turn 0;");
        checks.due("7 in a cell in common", cell.whyNot(3, 0, 1, 0, false), 0);
        checks.due("7 a quarter in common", cell.whyNot(3, 0, 0, 0, false), 4);
    }

    // ---- promise 8

    private void places() {
        TangramBoard b = full();
        for (int piece = 0; piece < 7; piece++) {
            checks.due("8 places(" + piece + ") on a full board", b.places(piece), 1);
        }
        TangramBoard diamond = Texts.board("board 4 4; piece 3 at 1 1 turn 0;");
        checks.due("8 no place", diamond.places(0), 0);
        checks.due("8 taken off first", diamond.places(3), 9);
        int[] empty = {140, 140, 200, 50, 196, 230, 230};
        TangramBoard wide = Texts.board("board 11 6;");
        for (int piece = 0; piece < 7; piece++) {
            // turned and not: (11 - w + 1) * (6 - h + 1) places each
            int w = wide.piece(piece, 4);
            int h = wide.piece(piece, 5);
            int both = (12 - w) * (7 - h) + (12 - h) * (7 - w);
            int due = both * wide.piece(piece, 7) / 2;
            checks.due("8 places(" + piece + ") on an empty board", wide.places(piece), due);
            checks.due("8 by hand", empty[piece], due);
        }
        for (int none : NO_PIECES) {
            checks.throwsDue("8 piece " + none, () -> b.places(none), NO_INDEX);
        }
    }

    // ---- promises 9 to 11

    private void seams() {
        TangramBoard b = full();
        int[][] wanted = {{0, 1, 0, 4}, {0, 4, 0, 2}, {0, 5, 0, 2}, {1, 3, 0, 2}, {1, 6, 0, 2}, {2, 3, 0, 2},
            {2, 4, 0, 2}, {3, 5, 0, 2}, {3, 6, 0, 2}, {4, 5, 2, 0}};
        for (int piece = 0; piece < 7; piece++) {
            for (int other = 0; other < 7; other++) {
                int longs = 0;
                int shorts = 0;
                for (int[] w : wanted) {
                    if (w[0] == Math.min(piece, other) && w[1] == Math.max(piece, other)) {
                        longs = w[2];
                        shorts = w[3];
                    }
                }
                checks.due("9 long seams " + piece + " " + other, b.seams(piece, other, true), longs);
                checks.due("9 short seams " + piece + " " + other, b.seams(piece, other, false), shorts);
            }
        }
        b.takeOff(4);
        checks.due("9 seams of an off piece", b.seams(4, 5, true) + b.seams(5, 4, true) + b.seams(4, 0, false), 0);
        checks.due("9 one piece and itself, off", b.seams(4, 4, true) + b.seams(4, 4, false), 0);
        // In the cells of the first and of the last quarter.
        TangramBoard ends = Texts.board("board 12 12; piece 5 at 10 11 turn 2; piece 6 at 11 10 turn 1;");
        checks.due("9 seams of the last quarter", ends.seams(5, 6, false) + " " + ends.seams(6, 5, false), "2 2");
        ends = Texts.board("board 12 12; piece 5 at 0 0 turn 0; piece 6 at 0 0 turn 3;");
        checks.due("9 seams of the first quarter", ends.seams(5, 6, false) + " " + ends.seams(6, 5, false), "2 2");
        TangramBoard empty = new TangramBoard();
        checks.due("9 two off pieces", empty.seams(0, 1, true) + empty.seams(0, 1, false), 0);
        checks.due("9 a point in common", Texts.board(ONE_POINT).seams(5, 6, true), 0);
        checks.due("9 a point in common", Texts.board(ONE_POINT).seams(5, 6, false), 0);
        for (int none : NO_PIECES) {
            checks.throwsDue("9 seams(" + none + ", 0)", () -> b.seams(none, 0, true), NO_INDEX);
            checks.throwsDue("9 seams(0, " + none + ")", () -> b.seams(0, none, false), NO_INDEX);
            checks.throwsDue("9 seams(" + none + ", itself)", () -> b.seams(none, none, false), NO_INDEX);
        }
    }

    private void matches() {
        checks.due("10 matches() of one piece", Texts.board("board 4 4; piece 4 at 0 0 turn 0;").matches(), 0);
        checks.due("10 matches() of pieces apart", Texts.board(APART).matches(), 0);
        checks.due("10 matches() of a point", Texts.board(ONE_POINT).matches(), 0);
        TangramBoard b = full();
        checks.due("10 matches() of a full board", b.matches(), 4);
        for (int piece = 0; piece < 7; piece++) {
            b.takeOff(piece);
        }
        checks.due("10 matches() when all are off", b.matches(), 0);
        // The last side of a polygon leads from its last corner to its first one.
        matched("last sides", "board 8 8; piece 2 at 2 0 turn 0; piece 4 at 1 0 turn 1;", 1);
        matched("a part of a side", "board 8 8; piece 2 at 2 0 turn 0; piece 4 at 1 0 turn 1 flip;", 0);
        matched("sides at two rims", "board 4 4; piece 5 at 0 0 turn 3; piece 6 at 3 0 turn 1;", 0);
    }

    private void matched(String name, String text, int wanted) {
        checks.due("10 matches(), " + name, Texts.board(text).matches(), wanted);
    }

    private void inner() {
        checks.due("11 inner() of one piece", Texts.board("board 4 4; piece 0 at 0 0 turn 0;").inner(), 0);
        checks.due("11 inner() of pieces apart", Texts.board(APART).inner(), 0);
        TangramBoard b = full();
        checks.due("11 inner() of a full board", b.inner(), 8 + 32);
        b.takeOff(5);
        checks.due("11 an off piece does not count, nor one beside its hole", b.inner(), 0);
        b.undo();
        b.takeOff(6);
        checks.due("11 beside the rim of what is left", b.inner(), 32);
        // The last piece in the place of its twin.
        TangramBoard last = Texts.board("board 4 4; piece 0 at 0 0 turn 0; piece 1 at 0 0 turn 3; "
            + "piece 2 at 2 2 turn 1 flip; piece 3 at 1 2 turn 0; piece 4 at 3 0 turn 1; piece 6 at 2 1 turn 1; "
            + "piece 5 at 0 3 turn 2;");
        checks.due("11 the last piece", last.inner(), 8 + 64);
    }

    // ---- promises 12 and 13

    private void loop() {
        TangramBoard empty = new TangramBoard();
        checks.throwsDue("12 no loop of nothing", () -> empty.loop(0, 0), NO_ELEMENT);
        checks.throwsDue("12 no loop of nothing, what -1", () -> empty.loop(0, -1), NO_ELEMENT);
        TangramBoard b = full();
        numbers("12 the loop of a full board", new int[] {4, 16, 0, 0, 0, 0}, what -> b.loop(0, what));
        badWhats("12 loop", 5, what -> b.loop(0, what));
        for (int none : new int[] {Integer.MIN_VALUE, -1, 1, 2, 191, 192, Integer.MAX_VALUE}) {
            checks.throwsDue("12 loop(" + none + ", 0)", () -> b.loop(none, 0), NO_ELEMENT);
            checks.throwsDue("12 loop(" + none + ", 6)", () -> b.loop(none, 6), NO_ELEMENT);
        }
        b.takeOff(5);
        numbers("12 round a full board with a hole", new int[] {4, 16, 0, 0, 0, 0}, what -> b.loop(0, what));
        numbers("12 the hole", new int[] {3, 2, 4, 1, 6, 2}, what -> b.loop(1, what));
        b.undo();
        checks.throwsDue("12 the hole is filled", () -> b.loop(1, 0), NO_ELEMENT);
        TangramBoard rim = Texts.board("board 12 12; piece 0 at 8 10 turn 2;");
        numbers("12 at the last corner", new int[] {3, 4, 8, 0, 20, 20}, what -> rim.loop(0, what));
        // A hole comes in the place of a loop that went round much more.
        TangramBoard two = Texts.board("board 9 9; shape 0 0 e4s4w4n4; piece 0 at 0 0 turn 0; piece 1 at 5 5 turn 2;");
        checks.due("12 no hole", two.loop(1, 3), 0);
        two.solve(0);
        two.takeOff(5);
        checks.due("12 a hole in its place", two.loop(1, 3), 1);
        checks.due("4 holes", two.size(6), 1);
        two.undo();
        two.undo();
        checks.due("12 no hole again", two.loop(1, 3) + two.size(6), 0);
    }

    private void edge() {
        TangramBoard empty = new TangramBoard();
        checks.throwsDue("13 no edge of nothing", () -> empty.edge(0, 0, 0), NO_ELEMENT);
        checks.throwsDue("13 no edge of nothing, what 9", () -> empty.edge(0, 0, 9), NO_ELEMENT);
        TangramBoard b = full();
        b.takeOff(5);
        int[][] square = {{0, 4, 0, 0, 2}, {2, 4, 8, 0, 2}, {4, 4, 8, 8, 2}, {6, 4, 0, 8, 2}};
        int[][] hole = {{3, 2, 6, 2, -3}, {1, 2, 4, 4, -2}, {6, 2, 6, 6, -3}};
        for (int edge = 0; edge < 4; edge++) {
            int e = edge;
            numbers("13 edge " + e, square[e], what -> b.edge(0, e, what));
            badWhats("13 edge " + e, 4, what -> b.edge(0, e, what));
        }
        for (int edge = 0; edge < 3; edge++) {
            int e = edge;
            numbers("13 edge " + e + " of the hole", hole[e], what -> b.edge(1, e, what));
            badWhats("13 edge " + e + " of the hole", 4, what -> b.edge(1, e, what));
        }
        // Behind the last edge of a loop the first one of the next loop does not count.
        for (int none : new int[] {Integer.MIN_VALUE, -1, 4, 5, 192, Integer.MAX_VALUE}) {
            checks.throwsDue("13 edge(0, " + none + ", 0)", () -> b.edge(0, none, 0), NO_ELEMENT);
            checks.throwsDue("13 edge(0, " + none + ", 5)", () -> b.edge(0, none, 5), NO_ELEMENT);
        }
        for (int none : new int[] {Integer.MIN_VALUE, -5, -4, -1, 3, Integer.MAX_VALUE - 3, Integer.MAX_VALUE}) {
            checks.throwsDue("13 edge(1, " + none + ", 0)", () -> b.edge(1, none, 0), NO_ELEMENT);
        }
        for (int none : new int[] {Integer.MIN_VALUE, -1, 2, Integer.MAX_VALUE}) {
            checks.throwsDue("13 edge(" + none + ", 0, 0)", () -> b.edge(none, 0, 0), NO_ELEMENT);
            checks.throwsDue("13 edge(" + none + ", -1, -1)", () -> b.edge(none, -1, -1), NO_ELEMENT);
        }
    }

    private void edgesAtTheLastCorner() {
        TangramBoard b = Texts.board("board 12 12; shape 8 8 e4s4w4n4; piece 0 at 8 10 turn 2;");
        int[][] large = {{1, 4, 20, 20, 2}, {4, 4, 24, 24, 3}, {7, 4, 16, 24, 3}};
        for (int edge = 0; edge < 3; edge++) {
            int e = edge;
            numbers("13 edge " + e + " at the last corner", large[e], what -> b.edge(0, e, what));
        }
        b.solve(0);
        b.takeOff(5);
        int[][] square = {{0, 4, 16, 16, 2}, {2, 4, 24, 16, 2}, {4, 4, 24, 24, 2}, {6, 4, 16, 24, 2}};
        int[][] hole = {{3, 2, 22, 18, -3}, {1, 2, 20, 20, -2}, {6, 2, 22, 22, -3}};
        for (int edge = 0; edge < 4; edge++) {
            int e = edge;
            numbers("13 edge " + e + " of the last square", square[e], what -> b.edge(0, e, what));
        }
        for (int edge = 0; edge < 3; edge++) {
            int e = edge;
            numbers("13 edge " + e + " of the last hole", hole[e], what -> b.edge(1, e, what));
        }
        numbers("12 the last hole", new int[] {3, 2, 4, 1, 22, 18}, what -> b.loop(1, what));
    }

    private void orderOfLoops() {
        // By y, then by x: the pieces 0, 2, 4, 5, 3, 6, 1, told by their first corners.
        int[][] first = {{0, 0}, {10, 0}, {16, 0}, {0, 10}, {12, 10}, {20, 18}, {4, 20}};
        TangramBoard b = Texts.board(APART);
        for (int loop = 0; loop < 7; loop++) {
            checks.due("12 x of loop " + loop, b.loop(loop, 4), first[loop][0]);
            checks.due("12 y of loop " + loop, b.loop(loop, 5), first[loop][1]);
        }
        // Then by direction: both loops begin at one point, one eastwards and one southwards.
        TangramBoard point = Texts.board(ONE_POINT);
        int[][] wanted = {{0, 2, 2, 0, 3}, {2, 2, 2, 0, 3}};
        for (int loop = 0; loop < 2; loop++) {
            int l = loop;
            numbers("13 first edge of loop " + l, wanted[l], what -> point.edge(l, 0, what));
            numbers("12 loop " + l, new int[] {3, 2, 4, 0, 2, 0}, what -> point.loop(l, what));
        }
    }

    // ---- promises 14 to 17

    private void perimeterAndFullness() {
        TangramBoard b = full();
        checks.due("14 long borders alone", b.perimeter(), 16.0);
        checks.due("15 a full box", b.fullness(), 1.0f);
        TangramBoard apart = Texts.board(APART);
        checks.due("14 all pieces apart", apart.perimeter(), 20.0 + 40.0 * 0.7071067811865476);
        checks.due("15 all pieces apart", apart.fullness(), 64f / 528f);
        b.takeOff(5);
        checks.due("14 a hole counts", b.perimeter(), 18.0 + 4.0 * 0.7071067811865476);
        checks.due("15 a hole counts not", b.fullness(), 60f / 64f);
        for (int piece = 0; piece < 7; piece++) {
            b.takeOff(piece);
        }
        checks.due("14 nothing again", b.perimeter(), 0.0);
        checks.due("15 nothing again", b.fullness(), 0.0f);
        TangramBoard rims = Texts.board("board 12 12; piece 5 at 0 0 turn 0; piece 6 at 10 11 turn 2;");
        checks.due("15 the greatest box", rims.fullness(), 8f / 576f);
    }

    private void looks() {
        TangramBoard b = full();
        checks.due("16 a full square", b.looks(), 1);
        b.takeOff(3);
        checks.due("16 a square with a hole", b.looks(), 4);
        checks.due("16 all pieces apart", Texts.board(APART).looks(), 8);
        checks.due("16 the least piece", Texts.board("board 12 12; piece 5 at 10 11 turn 0;").looks(), 4);
        TangramBoard wide = Texts.board("board 12 12; piece 5 at 0 0 turn 3; piece 6 at 11 0 turn 1;");
        checks.due("16 the widest one", wide.looks(), 2);
        for (int piece = 0; piece < 7; piece++) {
            b.takeOff(piece);
        }
        checks.due("16 nothing again", b.looks(), 0);
    }

    private void isSimple() {
        TangramBoard b = full();
        checks.due("17 a full board", b.isSimple(), true);
        b.takeOff(5);
        checks.due("17 a hole", b.isSimple(), false);
        b.undo();
        b.takeOff(6);
        checks.due("17 a hollow at the rim", b.isSimple(), true);
        b.undo();
        b.takeOff(3);
        checks.due("17 a hollow that touches the rim at a point", b.isSimple(), false);
        checks.due("17 its parts, loops and holes", b.size(4) + " " + b.size(5) + " " + b.size(6), "1 1 0");
        b.undo();
        checks.due("17 filled again", b.isSimple(), true);
        for (int piece = 0; piece < 7; piece++) {
            b.takeOff(piece);
        }
        checks.due("17 nothing again", b.isSimple(), false);
        checks.due("17 all pieces apart", Texts.board(APART).isSimple(), false);
        checks.due("17 two parts at a point", Texts.board(ONE_POINT).isSimple(), false);
    }

    // ---- promises 18 to 23

    private static TangramBoard eightShapes() {
        return Texts.board("board 12 9; shape 0 0 e1s1w1n1; shape 1 0 e2s1w2n1; shape 0 2 e3s1w3n1; shape 0 0 e4s1w4n1;"
            + "shape 0 0 e2s2w2n2; shape 0 0 e2s3w2n3; shape 0 0 e4s2w4n2; shape 10 8 e2s1w2n1; "
            + "piece 5 at 5 5 turn 0;");
    }

    private void shape() {
        TangramBoard b = eightShapes();
        numbers("18 shape 2", new int[] {12, 0, 2, 3, 1}, what -> b.shape(2, what));
        numbers("18 shape 7", new int[] {8, 10, 8, 2, 1}, what -> b.shape(7, what));
        badWhats("18 shape 7", 4, what -> b.shape(7, what));
        for (int none : NO_SHAPES) {
            checks.throwsDue("18 shape " + none, () -> b.shape(none, 0), NO_INDEX);
            checks.throwsDue("18 shape " + none + ", what 5", () -> b.shape(none, 5), NO_INDEX);
        }
        b.remove(0);
        checks.throwsDue("18 the eighth shape is gone", () -> b.shape(7, 0), NO_INDEX);
        TangramBoard empty = new TangramBoard();
        checks.throwsDue("18 no shape at all", () -> empty.shape(0, 0), NO_INDEX);
        checks.throwsDue("18 no shape at all, what -1", () -> empty.shape(0, -1), NO_INDEX);
        TangramBoard half = Texts.board("board 4 4; shape 4 4 n 1 sw 1 e 1; shape 0 3 e 4 s 1 nw 1 w 2 sw 1 n 1;");
        numbers("18 in the last cell", new int[] {2, 3, 3, 1, 1}, what -> half.shape(0, what));
        numbers("18 the last row", new int[] {4, 0, 3, 4, 1}, what -> half.shape(1, what));
    }

    private void hasQuarter() {
        TangramBoard b = Texts.board("board 12 12; shape 0 0 e 12 s 12 w 12 n 12;");
        TangramBoard small = Texts.board("board 5 4; shape 0 0 e 5 s 4 w 5 n 4;");
        for (int q = -50; q < 630; q++) {
            checks.due("19 hasQuarter(0, " + q + ")", b.hasQuarter(0, q), q >= 0 && q < 576);
            boolean isOnBoard = q >= 0 && q / 48 < 4 && q / 4 % 12 < 5;
            checks.due("19 hasQuarter(0, " + q + ") on a small board", small.hasQuarter(0, q), isOnBoard);
        }
        for (int none : new int[] {Integer.MIN_VALUE, -576, 1024, Integer.MAX_VALUE}) {
            checks.due("19 hasQuarter(0, " + none + ")", b.hasQuarter(0, none), false);
            checks.throwsDue("19 no shape, no quarter", () -> b.hasQuarter(1, none), NO_INDEX);
        }
        for (int none : NO_SHAPES) {
            checks.throwsDue("19 shape " + none, () -> b.hasQuarter(none, 0), NO_INDEX);
        }
    }

    private void alike() {
        TangramBoard b = Texts.board("board 8 8; piece 5 at 3 3 turn 0; shape 3 3 e2sw1nw1; shape 6 7 e2sw1nw1;"
            + "shape 0 0 s2ne1nw1; shape 0 0 e4sw2nw2; shape 3 3 e1se1w1nw1; shape 3 3 e1s1w1n1;");
        // The first that applies: a symmetric shape is alike by turns and by flips, too.
        int[] wanted = {1, 2, 3, 0, 0, 0};
        for (int shape = 0; shape < wanted.length; shape++) {
            checks.due("20 alike(" + shape + ")", b.alike(shape), wanted[shape]);
        }
        TangramBoard diamond = Texts.board("board 8 8; piece 3 at 6 6 turn 1; shape 1 0 se1sw1nw1ne1; "
            + "shape 7 6 se1sw1nw1ne1;");
        checks.due("20 a diamond, shifted", diamond.alike(0), 2);
        checks.due("20 a diamond, itself", diamond.alike(1), 1);
        diamond.takeOff(3);
        checks.due("20 nothing", diamond.alike(0) + diamond.alike(1), 0);
        TangramBoard full = full();
        checks.due("20 a full board", full.alike(0), 1);
        TangramBoard slant = Texts.board("board 4 4; piece 4 at 0 0 turn 0; shape 1 3 e 2 sw 1 w 2 ne 1;"
            + "shape 0 1 ne1 e1 se1 w3; shape 0 0 s2 se1 n2 nw1; shape 0 2 s2 ne1 n2 sw1;");
        int[] slants = {4, 0, 4, 3};
        for (int shape = 0; shape < slants.length; shape++) {
            checks.due("20 alike(" + shape + ") to a parallelogram", slant.alike(shape), slants[shape]);
        }
        for (int none : NO_SHAPES) {
            checks.throwsDue("20 alike(" + none + ")", () -> b.alike(none), NO_INDEX);
        }
        checks.throwsDue("20 alike(6) of 6 shapes", () -> b.alike(6), NO_INDEX);
        checks.throwsDue("20 alike(0) of none", () -> new TangramBoard().alike(0), NO_INDEX);
    }

    private void alikeFromRimToRim() {
        // A parallelogram at one rim and a small triangle at the other one: 2 by 12 cells.
        TangramBoard b = Texts.board("board 12 12; piece 4 at 0 0 turn 1; piece 5 at 0 11 turn 0;");
        checks.due("16 looks", b.looks(), 8);
        b.keep();
        b.shift(10, 0);
        checks.due("20 shifted to the other rim", b.alike(0), 2);
        b.turn(5);
        b.place(5, 10, 11, 2, false);
        checks.due("20 another last row", b.alike(0), 0);
        b.takeOff(5);
        b.place(4, 1, 0, 1, true);
        b.place(5, 0, 11, 0, false);
        checks.due("20 flipped", b.alike(0), 4);
        b.place(4, 9, 5, 0, false);
        b.place(5, 0, 5, 1, false);
        checks.due("20 turned, 12 by 2 cells", b.alike(0), 3);
        b.place(4, 9, 5, 0, true);
        checks.due("20 another last column", b.alike(0), 0);
    }

    private void findAndKinds() {
        TangramBoard b = eightShapes();
        checks.due("21 no alike shape among eight", b.find(), -1);
        checks.due("22 kinds() of eight shapes", b.kinds(), 7);
        b.remove(7);
        b.keep();
        checks.due("21 the last one of eight", b.find(), 7);
        checks.due("22 kinds() of eight different shapes", b.kinds(), 8);
        b.turn(5);
        b.shift(2, 2);
        checks.due("21 the last one of eight, turned and shifted", b.find(), 7);
        b.takeOff(5);
        checks.due("21 nothing", b.find(), -1);
        TangramBoard same = Texts.board("board 4 4; piece 4 at 0 0 turn 0;");
        checks.due("21 an empty catalogue", same.find(), -1);
        checks.due("22 an empty catalogue", same.kinds(), 0);
        checks.due("21 nothing and an empty catalogue", new TangramBoard().find(), -1);
        for (int i = 0; i < 8; i++) {
            same.keep();
            checks.due("21 the first of several", same.find(), 0);
            checks.due("22 alike ones count once", same.kinds(), 1);
            same.place(4, i % 2, i % 2, i % 4, i > 3);
        }
    }

    private void missing() {
        TangramBoard b = Texts.board("board 12 12; shape 0 0 e 12 s 12 w 12 n 12; shape 0 0 e 1 s 1 nw 1;"
            + "shape 11 11 se 1 w 1 n 1; shape 11 11 e 1 sw 1 n 1;");
        checks.due("23 nothing and the greatest shape", b.missing(0), 576);
        checks.due("23 nothing and the least shape", b.missing(1), 2);
        b.place(5, 10, 11, 2, false);
        checks.due("23 a shape that contains it", b.missing(0), 572);
        checks.due("23 another place", b.missing(1), 6);
        checks.due("23 a part of it", b.missing(2), 2);
        checks.due("23 one quarter in common", b.missing(3), 4);
        b.keep();
        checks.due("23 itself", b.missing(4), 0);
        for (int none : NO_SHAPES) {
            checks.throwsDue("23 missing(" + none + ")", () -> b.missing(none), NO_INDEX);
        }
        checks.throwsDue("23 missing(5) of 5 shapes", () -> b.missing(5), NO_INDEX);
        checks.throwsDue("23 missing(0) of none", () -> new TangramBoard().missing(0), NO_INDEX);
    }

    // ---- promises 24 and 25

    private void ways() {
        TangramBoard b = Texts.board("board 12 12; shape 1 0 e 3 s 4 w 4 n 3 ne 1; shape 0 0 e 5 sw 1 s 3 w 4 n 4;"
            + "shape 0 0 e 1 s 1 nw 1; shape 0 0 e 8 s 2 w 8 n 2; shape 4 4 e4s4w4n4; shape 8 8 e4s4w4n4;");
        int[] quarters = {62, 66, 2, 64, 64, 64};
        int[] wanted = {0, 0, 0, 0, 8, 8};
        for (int shape = 0; shape < wanted.length; shape++) {
            checks.due("24 quarters of shape " + shape, b.shape(shape, 0), quarters[shape]);
            checks.due("24 ways(" + shape + ")", b.ways(shape), wanted[shape]);
        }
        for (int none : NO_SHAPES) {
            checks.throwsDue("24 ways(" + none + ")", () -> b.ways(none), NO_INDEX);
        }
        checks.throwsDue("24 ways(0) of none", () -> new TangramBoard().ways(0), NO_INDEX);
    }

    private void waysOfOtherShapes() {
        // What was found for one shape, or only looked for once, does not answer for another one.
        TangramBoard b = Texts.board("board 8 4; shape 0 0 e8s2w8n2; shape 0 0 e4s4w4n4; shape 4 0 e4s4w4n4;");
        checks.due("25 the first way of shape 1", b.firstWay(1, 2, 0), 2);
        checks.due("24 all of its ways", b.ways(1), 8);
        checks.due("25 the first way again", b.firstWay(1, 2, 0), 2);
        checks.due("25 the first way of shape 2", b.firstWay(2, 2, 0), 6);
        checks.due("24 ways(0)", b.ways(0), 0);
        checks.due("25 no way", b.firstWay(0, 2, 0), -1);
        checks.due("24 ways(2)", b.ways(2), 8);
        b.remove(0);
        checks.due("24 shape 1 is shape 0 then", b.ways(0), 8);
        b.undo();
        checks.due("24 and shape 1 again", b.ways(0), 0);
        checks.due("33 solve(0)", b.solve(0), false);
        checks.due("24 ways(1)", b.ways(1), 8);
    }

    private void firstWay() {
        // The same silhouette as APART, but twins and looks exchanged: the first way is told by the quarters alone.
        TangramBoard b = Texts.board("board 12 12; piece 1 at 0 0 turn 0 flip; piece 0 at 0 10 turn 2; "
            + "piece 2 at 5 0 turn 3 flip; piece 3 at 5 5 turn 3 flip; piece 4 at 8 0 turn 2; "
            + "piece 6 at 0 5 turn 0 flip; piece 5 at 9 9 turn 1;");
        b.keep();
        int[][] wanted = {{0, 0, 0, 0}, {0, 10, 2, 0}, {5, 0, 0, 0}, {5, 5, 0, 0}, {8, 0, 0, 0}, {0, 5, 0, 0},
            {9, 9, 1, 0}};
        for (int piece = 0; piece < 7; piece++) {
            int p = piece;
            numbers("25 piece " + p, wanted[p], what -> b.firstWay(0, p, what));
            badWhats("25 piece " + p, 3, what -> b.firstWay(0, p, what));
        }
        checks.due("24 twins that are exchanged are one way", b.ways(0), 1);
        // No way: NONE for each number, but exceptions as ever.
        TangramBoard none = Texts.board("board 8 8; shape 0 0 e 8 s 8 w 8 n 8;");
        for (int piece = 0; piece < 7; piece++) {
            int p = piece;
            numbers("25 no way, piece " + p, new int[] {-1, -1, -1, -1}, what -> none.firstWay(0, p, what));
            badWhats("25 no way, piece " + p, 3, what -> none.firstWay(0, p, what));
        }
        for (int bad : NO_PIECES) {
            checks.throwsDue("25 piece " + bad, () -> b.firstWay(0, bad, 0), NO_INDEX);
            checks.throwsDue("25 piece " + bad + ", what 4", () -> b.firstWay(0, bad, 4), NO_INDEX);
            checks.throwsDue("25 no way, piece " + bad, () -> none.firstWay(0, bad, 0), NO_INDEX);
        }
        for (int bad : NO_SHAPES) {
            checks.throwsDue("25 shape " + bad, () -> b.firstWay(bad, 0, 0), NO_INDEX);
            checks.throwsDue("25 shape " + bad + ", what 4", () -> b.firstWay(bad, 0, 4), NO_INDEX);
        }
    }

    private void nothingChanges() {
        TangramBoard b = full();
        b.saveSnapshot(0);
        b.takeOff(5);
        String before = Whole.of(b);
        Whole.of(b);
        checks.due("6 questions change nothing", Whole.of(b), before);
        checks.due("6 nor what can be undone", b.undo(), 1);
        checks.due("6 nor snapshots", b.saveSnapshot(0), true);
    }
}
