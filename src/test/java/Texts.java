import java.nio.charset.StandardCharsets;

/** Brings texts into an input buffer, and writes texts with and without errors. */
final class Texts {
    private static final String[] DIRECTIONS = {"e", "se", "s", "sw", "w", "nw", "n", "ne"};
    private static final String[] ODD = {";", "piece", "shape", "at", "turn", "flip", "board", "e", "nw", "0", "7",
        "13", "100", "007", "boards", "E", "-1", "\t", "x", "\u00e9", ";;", "e e", "12", "4", "ss", "08"};

    private Texts() { }

    /** The five arguments of the append() calls that bring a text into the buffer, padded with spaces. */
    static int[][] rows(String text) {
        byte[] bytes = text.getBytes(StandardCharsets.ISO_8859_1);
        int[][] rows = new int[(bytes.length + 19) / 20][5];
        for (int i = 0; i < 20 * rows.length; i++) {
            int value = i < bytes.length ? bytes[i] & 255 : 32;
            rows[i / 20][i % 20 / 4] |= value << 24 - 8 * (i % 4);
        }
        return rows;
    }

    static int parse(TangramBoard board, String text) {
        for (int[] r : rows(text)) {
            board.append(r[0], r[1], r[2], r[3], r[4]);
        }
        return board.parse(text.getBytes(StandardCharsets.ISO_8859_1).length);
    }

    static TangramBoard board(String text) {
        TangramBoard board = new TangramBoard();
        if (parse(board, text) < 0) {
            throw new IllegalArgumentException(text);
        }
        return board;
    }

    static String thrown(Dice dice) {
        int width = dice.between(4, 12);
        int height = dice.between(4, 12);
        StringBuilder text = new StringBuilder("board " + width + gap(dice) + height + gap(dice) + ";");
        int statements = dice.oneIn(6) ? dice.between(5, 12) : dice.between(0, 6);
        for (int i = 0; i < statements; i++) {
            text.append(gap(dice)).append(dice.oneIn(2) ? piece(dice, width, height) : shape(dice, width, height));
        }
        String whole = text.length() > 690 ? text.substring(0, text.lastIndexOf(";", 690) + 1) : text.toString();
        return dice.oneIn(3) ? spoilt(dice, whole) : whole;
    }

    private static String gap(Dice dice) {
        String[] gaps = {" ", " ", " ", "  ", "\n", " \n "};
        return gaps[dice.below(gaps.length)];
    }

    private static String piece(Dice dice, int width, int height) {
        return "piece " + dice.between(0, 6) + " at " + dice.between(0, Math.max(0, width - 3)) + " "
            + dice.between(0, Math.max(0, height - 3)) + " turn " + dice.between(0, 3) + (dice.oneIn(3) ? " flip" : "")
            + gap(dice) + ";";
    }

    /** A walk that comes back: some edges, then straight ones to the first corner. */
    private static String shape(Dice dice, int width, int height) {
        int x = dice.between(0, width);
        int y = dice.between(0, height);
        StringBuilder text = new StringBuilder("shape " + x + " " + y);
        int toX = x;
        int toY = y;
        int edges = dice.between(1, 5);
        for (int i = 0; i < edges; i++) {
            int d = dice.below(8);
            int length = dice.between(1, 4);
            int nextX = toX + length * Integer.signum(new int[] {1, 1, 0, -1, -1, -1, 0, 1}[d]);
            int nextY = toY + length * Integer.signum(new int[] {0, 1, 1, 1, 0, -1, -1, -1}[d]);
            if (nextX >= 0 && nextX <= width && nextY >= 0 && nextY <= height) {
                text.append(" ").append(DIRECTIONS[d]).append(dice.oneIn(2) ? " " : "").append(length);
                toX = nextX;
                toY = nextY;
            }
        }
        if (toX != x) {
            text.append(toX > x ? " w " : " e ").append(Math.abs(toX - x));
        }
        if (toY != y) {
            text.append(toY > y ? " n " : " s ").append(Math.abs(toY - y));
        }
        return text.append(gap(dice)).append(";").toString();
    }

    private static String spoilt(Dice dice, String text) {
        int at = dice.below(text.length());
        if (dice.oneIn(3)) {
            return text.substring(0, at);
        }
        String odd = ODD[dice.below(ODD.length)];
        if (dice.oneIn(2)) {
            return text.substring(0, at) + odd + text.substring(at);
        }
        int end = at;
        while (end < text.length() && text.charAt(end) != ' ' && text.charAt(end) != ';') {
            end++;
        }
        while (at > 0 && text.charAt(at - 1) != ' ' && text.charAt(at - 1) != ';') {
            at--;
        }
        return text.substring(0, at) + odd + text.substring(end);
    }
}
