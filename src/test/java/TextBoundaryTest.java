/** The boundary cases of the promises 1 to 3, and of the texts that they read, sentence by sentence. */
public final class TextBoundaryTest {
    private static final Class<IllegalArgumentException> BAD = IllegalArgumentException.class;
    private static final int[] FAR = {Integer.MIN_VALUE, -700, -1, 701, Integer.MAX_VALUE};
    private static final int SPACES = 0x20202020;

    private final Checks checks = new Checks();

    public static void main(String[] args) {
        TextBoundaryTest test = new TextBoundaryTest();
        test.newObject();
        test.orderOfBytes();
        test.fullBuffer();
        test.bytesOfParse();
        test.emptyBufferBehindParse();
        test.whatParseReplaces();
        test.whatAnErrorLeaves();
        test.separators();
        test.bytesThatAreNoTokens();
        test.runsOfLettersAndDigits();
        test.sizesOfBoards();
        test.textsThatEndTooEarly();
        test.wordsAtWrongPlaces();
        test.numbersOfPieces();
        test.boxesOfPieces();
        test.numbersOfShapes();
        test.rimsOfShapes();
        test.outlinesThatAreNone();
        test.fullCatalogue();
        test.smallestOffset();
        test.checks.end();
    }

    private static int error(int offset, int code) {
        return -2 - (8 * offset + code);
    }

    private static void put(TangramBoard b, String text) {
        for (int[] r : Texts.rows(text)) {
            b.append(r[0], r[1], r[2], r[3], r[4]);
        }
    }

    /** An object with pieces, a shape, three changes and both snapshots. */
    private static TangramBoard used() {
        TangramBoard b = Texts.board("board 9 7; piece 2 at 1 1 turn 1; shape 0 0 e 2 s 2 w 2 n 2;");
        b.saveSnapshot(0);
        b.place(4, 5, 5, 2, true);
        b.keep();
        b.saveSnapshot(1);
        b.turn(2);
        return b;
    }

    /** An error: nothing but the buffer changes by it. */
    private void wrong(String text, int offset, int code) {
        TangramBoard b = used();
        String before = Whole.of(b);
        checks.due("parse of " + text, Texts.parse(b, text), error(offset, code));
        checks.due("all behind " + text, Whole.of(b), before);
    }

    private void right(String text, int shapes) {
        TangramBoard b = used();
        checks.due("parse of " + text, Texts.parse(b, text), shapes);
        checks.due("shapes behind " + text, b.size(8), shapes);
    }

    // ---- promise 1

    private void newObject() {
        TangramBoard b = new TangramBoard();
        checks.due("1 all of a new object", Whole.of(b), Whole.of(Texts.board("board 8 8;")));
        checks.throwsDue("1 an empty buffer: parse(1)", () -> b.parse(1), BAD);
        checks.due("1 no earlier snapshot in 0", b.saveSnapshot(0), false);
        checks.due("1 no earlier snapshot in 1", b.saveSnapshot(1), false);
        checks.due("1 nothing to undo", b.undo(), -1);
        // Whatever one object holds, another one does not.
        TangramBoard other = used();
        put(other, "board");
        checks.due("1 a second object", Whole.of(new TangramBoard()), Whole.of(Texts.board("board 8 8;")));
        checks.due("1 the first one", other.size(2) + " " + other.size(10), "2 20");
    }

    // ---- promise 2

    private void orderOfBytes() {
        // One byte of 20 that is no space: the offset of the error tells where it came to.
        for (int i = 0; i < 20; i++) {
            for (int odd : new int[] {0x80, 0xff, 0x7f, 0x00}) {
                int[] r = {SPACES, SPACES, SPACES, SPACES, SPACES};
                int bits = 24 - 8 * (i % 4);
                r[i / 4] = SPACES & ~(255 << bits) | odd << bits;
                TangramBoard b = new TangramBoard();
                checks.due("2 append", b.append(r[0], r[1], r[2], r[3], r[4]), 20);
                checks.due("2 byte " + i + " is " + odd, b.parse(20), error(i, 1));
            }
        }
        TangramBoard b = new TangramBoard();
        checks.due("2 the least numbers", b.append(-1, Integer.MIN_VALUE, Integer.MAX_VALUE, 0, -2), 20);
        checks.due("2 bytes 255", b.parse(20), error(0, 1));
    }

    private void fullBuffer() {
        TangramBoard b = new TangramBoard();
        int spaces = 0;
        checks.due("2 the first 20 bytes", b.append(0x626f6172, 0x64203420, 0x35202020, SPACES, SPACES), 20);
        while (spaces < 33) {
            spaces++;
            checks.due("2 the new length", b.append(SPACES, SPACES, SPACES, SPACES, SPACES), 20 + 20 * spaces);
        }
        checks.due("2 one place for 20 bytes is left", b.size(10), 680);
        checks.due("2 700 bytes are not too many", b.append(SPACES, SPACES, SPACES, SPACES, 0x2020203b), 700);
        for (int i = 0; i < 3; i++) {
            checks.due("2 a full buffer", b.append(-1, -1, -1, -1, -1), -1);
            checks.due("2 nothing is appended", b.size(10), 700);
        }
        checks.throwsDue("2 701 bytes", () -> b.parse(701), BAD);
        checks.due("2 the last byte is the semicolon", b.parse(700), 0);
        checks.due("2 the board of the full buffer", b.size(0) + " " + b.size(1), "4 5");
        checks.due("2 an empty buffer takes 20 bytes again", b.append(0, 0, 0, 0, 0), 20);
        for (int i = 1; i < 35; i++) {
            b.append(SPACES, SPACES, SPACES, SPACES, SPACES);
        }
        checks.due("2 a full buffer again", b.append(0, 0, 0, 0, 0), -1);
        b.parse(0);
        checks.due("2 room again behind an error", b.append(0, 0, 0, 0, 0), 20);
    }

    // ---- promise 3: its argument and what it alters

    private void bytesOfParse() {
        for (int length = 0; length <= 40; length += 20) {
            TangramBoard b = used();
            put(b, "board 8 8; board 8 8; board 8 8; board 8".substring(0, length));
            String before = Whole.of(b);
            for (int bytes : FAR) {
                checks.throwsDue("3 parse(" + bytes + ")", () -> b.parse(bytes), BAD);
            }
            int more = length + 1;
            checks.throwsDue("3 a byte too many", () -> b.parse(more), BAD);
            checks.due("3 an exception changes nothing, nor the buffer", Whole.of(b), before);
            checks.due("3 and nothing that can be undone", b.undo(), 2);
            checks.due("3 no byte", b.parse(0), error(0, 1));
            checks.throwsDue("3 an empty buffer", () -> b.parse(1), BAD);
        }
        TangramBoard b = new TangramBoard();
        put(b, "board 8 8; board 8 8");
        checks.due("3 all bytes of the buffer", b.parse(20), error(11, 1));
        put(b, "board 9 9; board 8 8");
        checks.due("3 the first bytes alone", b.parse(10), 0);
        checks.due("3 the board of the first bytes", b.size(0), 9);
    }

    private void emptyBufferBehindParse() {
        TangramBoard b = new TangramBoard();
        put(b, "board 8 8; shape 0 0 e 1 s 1 nw 1; shape 0 0 e 1 s 1 nw 1;");
        checks.due("3 a long text", b.parse(58), 2);
        checks.due("3 the buffer is empty", b.size(10), 0);
        put(b, "board 8 8;");
        checks.due("3 nothing of the long text is left", b.parse(20), 0);
        put(b, "board 8 8; piece 3 at 3 3 turn 0; oops");
        checks.due("3 an error", b.parse(38), error(34, 1));
        checks.due("3 the buffer is empty behind an error", b.size(10), 0);
        put(b, "board 8 8;");
        checks.due("3 nothing of the wrong text is left", b.parse(20), 0);
        checks.due("3 nor its pieces", b.size(2), 0);
    }

    private void whatParseReplaces() {
        TangramBoard b = used();
        checks.due("3 parse", Texts.parse(b, "board 6 5; piece 6 at 4 4 turn 2 flip; shape 5 5 n1 w1 se1;"), 1);
        int[] sizes = {6, 5, 1, 4, 1, 1, 0, 3, 1, 0, 0};
        for (int what = 0; what < sizes.length; what++) {
            checks.due("3 size(" + what + ") behind parse", b.size(what), sizes[what]);
        }
        checks.due("3 piece 2 is off", b.piece(2, 0), -1);
        int[] wanted = {4, 4, 2, 1};
        for (int what = 0; what < wanted.length; what++) {
            checks.due("3 piece(6, " + what + ")", b.piece(6, what), wanted[what]);
        }
        checks.due("3 shape 0", b.shape(0, 0) + " " + b.shape(0, 1) + " " + b.shape(0, 2), "2 4 4");
        checks.due("3 nothing can be undone", b.undo(), -1);
        checks.throwsDue("3 snapshot 0 is gone", () -> b.restoreSnapshot(0), IllegalStateException.class);
        checks.throwsDue("3 snapshot 1 is gone", () -> b.restoreSnapshot(1), IllegalStateException.class);
        checks.due("3 the least text", Texts.parse(b, "board 4 4;"), 0);
        checks.due("3 it replaces everything", Whole.of(b), Whole.of(Texts.board("board 4 4;")));
    }

    private void whatAnErrorLeaves() {
        TangramBoard b = used();
        b.keep();
        String before = Whole.of(b);
        String half = "board 4 4; piece 0 at 0 0 turn 0; shape 0 0 e 1 s 1 nw 1; ";
        String[] ends = {"x", "piece 9", "piece 0", "piece 1 at 0 0 turn 0;", "shape 0 0 e 1;"};
        for (String end : ends) {
            checks.due("3 " + end, Texts.parse(b, half + end) < -1, true);
            checks.due("3 all behind " + end, Whole.of(b), before);
        }
        checks.due("3 changes can be undone behind errors", b.undo() + " " + b.undo() + " " + b.undo() + " " + b.undo()
            + " " + b.undo(), "3 2 1 0 -1");
        checks.due("3 snapshot 1 is there behind errors", b.restoreSnapshot(1), 2);
        checks.due("3 snapshot 0 is there behind errors", b.restoreSnapshot(0), 1);
    }

    // ---- the tokens of a text

    private void separators() {
        right("board\n8\n8\n;\n", 0);
        right("   \n\n  board 8 8;", 0);
        right("board 8 8 ; shape 0 0 e 1 s 1 nw 1 ; \n ", 1);
        right("board 8 8;shape 0 0e1s1nw1;piece 6at 6 7turn 0;", 1);
        right("board8 8;", 0);
        right("board 8\n8;piece0at0 0turn0flip;", 0);
        wrong("board 88;", 6, 2);
        wrong("board 8 8;piece 0 at 00turn 0;", 23, 1);
        wrong("board 8 8;piece 0at0 0turn0 flip8;", 32, 1);
    }

    private void bytesThatAreNoTokens() {
        // Behind "board 8 8" and ahead of its semicolon a byte may only separate.
        for (int value = 0; value < 256; value++) {
            char sign = (char) value;
            int due = error(9, 1);
            if (value == 32 || value == 10) {
                due = 0;
            } else if (sign == ';') {
                due = error(10, 1);
            } else if (value >= '0' && value <= '9') {
                due = error(8, 2);
            }
            checks.due("3 the byte " + value, Texts.parse(new TangramBoard(), "board 8 8" + sign + ";"), due);
        }
        wrong("board 8 8; \u0000", 11, 1);
        wrong("board 8 8;\u0080", 10, 1);
        wrong("board -8 8;", 6, 1);
        wrong("board 8.8;", 7, 1);
        wrong("board +8 8;", 6, 1);
        wrong("board 8,8;", 7, 1);
    }

    private void runsOfLettersAndDigits() {
        right("board 08 04; shape 00 00 e01 s01 nw01;", 1);
        wrong("board 008 8;", 6, 1);
        wrong("board 8 0008;", 8, 1);
        wrong("board 8 8; piece 000 at 0 0 turn 0;", 17, 1);
        wrong("board 8 8; piece 0 at 0 0 turn 000;", 31, 1);
        wrong("board 8 8; shape 0 0 e 001 s 1 nw 1;", 23, 1);
        wrong("board 8 8; shape 0 000 e 1 s 1 nw 1;", 19, 1);
        wrong("boar d 8 8;", 0, 1);
        wrong("boardd 8 8;", 0, 1);
        wrong("board 8 8;piecepiece", 10, 1);
        wrong("board 8 8;pieceat", 10, 1);
        wrong("board 8 8;piec", 10, 1);
        wrong("board 8 8;shapes 0 0", 10, 1);
        wrong("board 8 8;piece 0 a 0 0 turn 0;", 18, 1);
        wrong("board 8 8;piece 0 att 0 0 turn 0;", 18, 1);
        wrong("board 8 8;piece 0 at 0 0 turns 0;", 25, 1);
        wrong("board 8 8;piece 0 at 0 0 turn 0 flipp;", 32, 1);
        wrong("board 8 8;shape 0 0 ee 1", 20, 1);
        wrong("board 8 8;shape 0 0 es 1", 20, 1);
        wrong("board 8 8;shape 0 0 nn 1", 20, 1);
        wrong("board 8 8;shape 0 0 sse 1", 20, 1);
        wrong("board 8 8;shape 0 0 a 1", 20, 1);
        wrong("board 99999999999999999999 8;", 6, 1);
    }

    private void sizesOfBoards() {
        for (int width = 0; width < 100; width++) {
            boolean isRight = width >= 4 && width <= 12;
            TangramBoard b = new TangramBoard();
            int due = isRight ? 0 : error(6, 2);
            checks.due("3 WIDTH " + width, Texts.parse(b, "board " + width + " 9;"), due);
            checks.due("3 the width", b.size(0), isRight ? width : 8);
            checks.due("3 the height", b.size(1), isRight ? 9 : 8);
            b = new TangramBoard();
            due = isRight ? 0 : error(8, 2);
            checks.due("3 HEIGHT " + width, Texts.parse(b, "board 5 " + width + ";"), due);
            checks.due("3 the width", b.size(0), isRight ? 5 : 8);
            checks.due("3 the height", b.size(1), isRight ? width : 8);
        }
    }

    // ---- the grammar

    private void textsThatEndTooEarly() {
        String text = "board 4 12; piece 4 at 1 11 turn 0 flip; shape 4 0 sw 4 e 4 n 4;";
        // Bytes from, to: the offset and the code of the error, or -1 and the number of shapes.
        // All the rest ends too early.
        int[][] odd = {{1, 4, 0, 1}, {9, 9, 8, 2}, {11, 12, -1, 0}, {13, 16, 12, 1}, {21, 21, 20, 1}, {29, 31, 28, 1},
            {36, 38, 35, 1}, {40, 41, -1, 0}, {42, 45, 41, 1}, {64, 64, -1, 1}};
        for (int bytes = 0; bytes <= text.length(); bytes++) {
            int due = error(bytes, 1);
            for (int[] o : odd) {
                if (bytes >= o[0] && bytes <= o[1]) {
                    due = o[2] < 0 ? o[3] : error(o[2], o[3]);
                }
            }
            TangramBoard b = new TangramBoard();
            put(b, text);
            checks.due("3 parse(" + bytes + ") of " + text, b.parse(bytes), due);
        }
        wrong("          ", 10, 1);
        wrong("board 8 8 \n", 11, 1);
        wrong("board 8 8; piece \n", 18, 1);
        wrong("board 8 8; shape 0 0   ", 23, 1);
    }

    private void wordsAtWrongPlaces() {
        // Each place of a text, and the tokens that are allowed there; every other one is an error of the code 1.
        String[] words = {"board", "piece", "at", "turn", "flip", "shape", "e", "se", "s", "sw", "w", "nw", "n", "ne",
            "1", ";", "foo", "123", "?"};
        String[][] places = {
            {"", "board"},
            {"board", "1"},
            {"board 8", "1"},
            {"board 8 8", ";"},
            {"board 8 8;", "piece", "shape"},
            {"board 8 8; piece", "1"},
            {"board 8 8; piece 1", "at"},
            {"board 8 8; piece 1 at", "1"},
            {"board 8 8; piece 1 at 1", "1"},
            {"board 8 8; piece 1 at 1 1", "turn"},
            {"board 8 8; piece 1 at 1 1 turn", "1"},
            {"board 8 8; piece 1 at 1 1 turn 1", "flip", ";"},
            {"board 8 8; piece 1 at 1 1 turn 1 flip", ";"},
            {"board 8 8; piece 1 at 1 1 turn 1 flip;", "piece", "shape"},
            {"board 8 8; shape", "1"},
            {"board 8 8; shape 1", "1"},
            {"board 8 8; shape 1 1", "e", "se", "s", "sw", "w", "nw", "n", "ne"},
            {"board 8 8; shape 1 1 e", "1"},
            {"board 8 8; shape 1 1 e 1", "e", "se", "s", "sw", "w", "nw", "n", "ne", ";"},
            {"board 8 8; shape 1 1 e 1 s 1 nw 1;", "piece", "shape"},
        };
        for (String[] place : places) {
            for (String word : words) {
                boolean isAllowed = false;
                for (int i = 1; i < place.length; i++) {
                    isAllowed |= place[i].equals(word);
                }
                if (!isAllowed) {
                    wrong(place[0] + " " + word, place[0].length() + 1, 1);
                }
            }
        }
    }

    private void numbersOfPieces() {
        // The least and the greatest numbers, on a board whose width and height differ.
        for (int piece = 0; piece < 100; piece++) {
            String text = "board 9 6; piece " + piece + " at 0 0 turn 0;";
            checks.due(text, Texts.parse(new TangramBoard(), text), piece <= 6 ? 0 : error(17, 2));
        }
        for (int x = 0; x < 100; x++) {
            String text = "board 9 6; piece 5 at " + x + " 0 turn 1;";
            checks.due(text, Texts.parse(new TangramBoard(), text), x <= 8 ? 0 : error(22, 2));
            text = "board 9 6; piece 5 at 0 " + x + " turn 0;";
            checks.due(text, Texts.parse(new TangramBoard(), text), x <= 5 ? 0 : error(24, 2));
            text = "board 9 6; piece 5 at 0 0 turn " + x + ";";
            checks.due(text, Texts.parse(new TangramBoard(), text), x <= 3 ? 0 : error(31, 2));
        }
        // The number of a piece that is placed already; it is placed by its semicolon.
        wrong("board 9 6; piece 6 at 0 0 turn 0; piece 6 at 4 4 turn 0;", 40, 3);
        wrong("board 9 6; piece 6 at 0 0 turn 0; piece 06 x", 40, 3);
        wrong("board 9 6; piece 0 at 0 0 turn 0; piece 1 at 4 0 turn 0; piece 0", 63, 3);
        right("board 9 6; piece 0 at 0 0 turn 0; piece 1 at 0 2 turn 2; piece 2 at 5 0 turn 0; piece 3 at 7 0 turn 0;"
            + "piece 4 at 6 4 turn 0; piece 5 at 4 4 turn 0; piece 6 at 4 5 turn 0;", 0);
    }

    private void boxesOfPieces() {
        // The widths and heights of the boxes, turned and not: at the rim, and a cell too far.
        int[][] boxes = {{4, 2}, {4, 2}, {2, 2}, {2, 2}, {3, 1}, {2, 1}, {2, 1}};
        for (int piece = 0; piece < 7; piece++) {
            for (int form = 0; form < 8; form++) {
                int width = boxes[piece][form / 2 % 2];
                int height = boxes[piece][1 - form / 2 % 2];
                box(piece, 9 - width, 6 - height, form, true);
                if (width > 1) {
                    box(piece, 10 - width, 6 - height, form, false);
                }
                if (height > 1) {
                    box(piece, 9 - width, 7 - height, form, false);
                }
            }
        }
        // Pieces may touch within a cell, but cover no quarter twice.
        right("board 9 6; piece 2 at 0 0 turn 0; piece 3 at 0 1 turn 0;", 0);
        wrong("board 9 6; piece 2 at 0 0 turn 0; piece 3 at 0 0 turn 0;", 55, 3);
        wrong("board 9 6; piece 2 at 0 0 turn 0; piece 3 at 0 0 turn 0 flip;", 60, 3);
        wrong("board 9 6; piece 2 at 0 0 turn 0; piece 3 at 8 1 turn 0; piece 2", 55, 3);
    }

    private void box(int piece, int x, int y, int form, boolean isRight) {
        String text = "board 9 6; piece " + piece + " at " + x + " " + y + " turn " + form / 2
            + (form % 2 == 1 ? " flip" : "");
        checks.due(text + ";", Texts.parse(new TangramBoard(), text + ";"), isRight ? 0 : error(text.length(), 3));
    }

    private void numbersOfShapes() {
        // The upper left corner lies at a cell of a board that is one cell wider and higher.
        for (int x = 0; x < 100; x++) {
            String way = x == 0 ? " e 1 s 1 nw 1;" : " w 1 s 1 ne 1;";
            String text = "board 9 6; shape " + x + " 0" + way;
            checks.due(text, Texts.parse(new TangramBoard(), text), x <= 9 ? 1 : error(17, 2));
            way = x == 0 ? " e 1 s 1 nw 1;" : " e 1 n 1 sw 1;";
            text = "board 9 6; shape 0 " + x + way;
            checks.due(text, Texts.parse(new TangramBoard(), text), x <= 6 ? 1 : error(19, 2));
        }
        for (int length = 0; length < 100; length++) {
            String text = "board 12 12; shape 0 0 e " + length + " s " + length + " nw " + length + ";";
            boolean isRight = length >= 1 && length <= 12;
            checks.due(text, Texts.parse(new TangramBoard(), text), isRight ? 1 : error(25, 2));
        }
        TangramBoard b = Texts.board("board 12 12; shape 0 0 e 12 s 12 nw 12; shape 12 12 nw 1 e 1 s 1;");
        checks.due("3 the greatest LENGTH", b.shape(0, 0), 288);
        checks.due("3 the least LENGTH", b.shape(1, 0), 2);
    }

    private void rimsOfShapes() {
        // From the point (4, 2) of a board of 9 by 6 cells it is so far to the rim in each direction.
        String[] directions = {"e", "se", "s", "sw", "w", "nw", "n", "ne"};
        int[] most = {5, 4, 4, 4, 4, 2, 2, 2};
        for (int d = 0; d < 8; d++) {
            String text = "board 9 6; shape 4 2 " + directions[d] + " ";
            int offset = text.length();
            wrong(text + most[d], offset + 1, 1);
            wrong(text + (most[d] + 1), offset, 2);
            wrong(text + "12 foo", offset, 2);
            wrong(text + "13", offset, 2);
        }
        wrong("board 9 6; shape 0 0 w 1", 23, 2);
        wrong("board 9 6; shape 0 0 n 1", 23, 2);
        wrong("board 9 6; shape 9 6 e 1", 23, 2);
        wrong("board 9 6; shape 9 6 s 1", 23, 2);
        // A later corner counts, too.
        wrong("board 9 6; shape 4 2 e 5 e 1", 27, 2);
        wrong("board 9 6; shape 4 2 e 5 s 4 s 1", 31, 2);
        right("board 9 6; shape 0 0 e 9 s 6 w 9 n 6;", 1);
    }

    private void outlinesThatAreNone() {
        wrong("board 9 6; shape 0 0 e 1;", 24, 3);
        wrong("board 9 6; shape 0 0 e 1 s 1 ;", 29, 3);
        wrong("board 9 6; shape 0 0 e 1 s 1 w 1 n 1 e 1;", 40, 3);
        wrong("board 9 6; shape 0 0 se 1 n 1;", 29, 3);
        wrong("board 9 6; shape 0 0 se 1 w 1;", 29, 3);
        // Back at the first corner, but without quarters.
        wrong("board 9 6; shape 0 0 e 1 w 1;", 28, 3);
        wrong("board 9 6; shape 3 3 ne 2 sw 1 sw 1;", 35, 3);
        wrong("board 9 6; shape 0 0 e 1 s 1 nw 1 e 1 s 1 nw 1;", 46, 3);
        // The crossing of two edges may lie in the middle of a cell.
        TangramBoard b = Texts.board("board 9 6; shape 2 1 se 1 n 1 sw 1 n 1;");
        checks.due("3 a bow tie", b.shape(0, 0), 2);
        boolean[] wanted = {false, true, false, true};
        for (int k = 0; k < 4; k++) {
            checks.due("3 quarter " + k + " of the bow tie", b.hasQuarter(0, 4 * (12 + 2) + k), wanted[k]);
        }
    }

    private void fullCatalogue() {
        String shape = "shape 0 0e1s1nw1;";
        String eight = "board 8 8;" + shape.repeat(8);
        right("board 8 8;" + shape.repeat(7), 7);
        right(eight, 8);
        right(eight + "piece 0 at 0 0 turn 0;", 8);
        wrong(eight + "shape", eight.length(), 4);
        wrong(eight + " " + shape, eight.length() + 1, 4);
        wrong(eight + "shape 99 foo", eight.length(), 4);
        wrong(eight + "shapes", eight.length(), 1);
        wrong(eight + "piece 0 at 0 0 turn 0; shape 0 0 e1s1nw1;", eight.length() + 23, 4);
        wrong(eight + "piece 0 at shape", eight.length() + 11, 1);
    }

    private void smallestOffset() {
        wrong("board 3 x;", 6, 2);
        wrong("board x 3;", 6, 1);
        wrong("board 13 3;", 6, 2);
        wrong("board 8 13 ?", 8, 2);
        wrong("board 8 8; piece 7 at 9 9 turn 9;", 17, 2);
        wrong("board 8 8; piece 0 at 9 9 turn 9 ?", 22, 2);
        wrong("board 8 8; piece 0 at 7 9 turn 9", 24, 2);
        wrong("board 8 8; piece 0 at 7 7 turn 9", 31, 2);
        wrong("board 8 8; piece 0 at 7 7 turn 3; ?", 32, 3);
        wrong("board 8 8; piece 0 at 0 0 turn 0; piece 0 at 99 99 turn 9;", 40, 3);
        wrong("board 8 8; shape 9 9 x 13", 17, 2);
        wrong("board 8 8; shape 8 8 x 13", 21, 1);
        wrong("board 8 8; shape 8 8 e 13", 23, 2);
        wrong("board 8 8; shape 0 0 e 1; shape 0 0 n 1;", 24, 3);
    }
}
