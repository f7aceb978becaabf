/** Compares long runs of calls with the answers of the plain model; arguments: how many runs, the first one. */
public final class ModelTest {
    private static final int RUNS = 400;
    private static final int CALLS = 60;

    private final Checks checks;
    private final int run;
    private final Dice dice;
    private final TangramBoard board = new TangramBoard();
    private final PlainModel model = new PlainModel();

    private ModelTest(Checks checks, int run) {
        this.checks = checks;
        this.run = run;
        this.dice = new Dice(run);
    }

    public static void main(String[] args) {
        Checks checks = new Checks();
        int runs = args.length > 0 ? Integer.parseInt(args[0]) : RUNS;
        int first = args.length > 1 ? Integer.parseInt(args[1]) : 0;
        for (int run = first; run < first + runs && checks.wrongAnswers() == 0; run++) {
            new ModelTest(checks, run).go();
        }
        checks.end();
    }

    private void same(String call, Checks.Call got, Checks.Call want) {
        checks.due("run " + run + ": " + call, Checks.answerOf(got), Checks.answerOf(want));
    }

    private void go() {
        if (!dice.oneIn(4)) {
            parse(Texts.thrown(dice));
        }
        for (int i = 0; i < CALLS; i++) {
            int sort = dice.below(100);
            if (sort < 3) {
                parse(Texts.thrown(dice));
            } else if (sort < 8) {
                crowd();
            } else if (sort < 60) {
                change();
            } else {
                ask();
            }
            same("checksum()", board::checksum, model::checksum);
        }
        askAll();
    }

    private void parse(String text) {
        for (int[] r : Texts.rows(text)) {
            same("append", () -> board.append(r[0], r[1], r[2], r[3], r[4]),
                () -> model.append(r[0], r[1], r[2], r[3], r[4]));
        }
        int bytes = dice.oneIn(20) ? dice.around(700) : dice.oneIn(10) ? dice.below(text.length() + 1) : text.length();
        same("parse(" + bytes + ") of " + text, () -> board.parse(bytes), () -> model.parse(bytes));
    }

    /** Tries to place all pieces near each other, so that there are parts, holes and full silhouettes. */
    private void crowd() {
        int width = model.size(0);
        int height = model.size(1);
        int reach = dice.between(3, 8);
        for (int piece = 0; piece < 7; piece++) {
            for (int i = 0; i < 12; i++) {
                int x = dice.below(Math.min(width, reach));
                int y = dice.below(Math.min(height, reach));
                int turn = dice.below(4);
                boolean flip = dice.oneIn(2);
                if (model.whyNot(piece, x, y, turn, flip) == 0) {
                    place(piece, x, y, turn, flip);
                    break;
                }
            }
        }
        if (model.size(2) == 7) {
            int shape = model.keep();
            same("keep()", board::keep, () -> shape);
            if (shape >= 0 && dice.oneIn(3)) {
                askWays(shape);
            }
        }
    }

    private void place(int piece, int x, int y, int turn, boolean flip) {
        String call = "place(" + piece + ", " + x + ", " + y + ", " + turn + ", " + flip + ")";
        same(call, () -> board.place(piece, x, y, turn, flip), () -> model.place(piece, x, y, turn, flip));
    }

    private void change() {
        int piece = dice.around(6);
        int shape = dice.around(7);
        int slot = dice.around(1);
        int dx = dice.oneIn(9) ? dice.around(12) : dice.between(-2, 2);
        int dy = dice.oneIn(9) ? dice.around(12) : dice.between(-2, 2);
        switch (dice.below(16)) {
            case 0, 1, 2, 3 ->
                place(piece, dice.around(model.size(0)), dice.around(model.size(1)), dice.around(3), dice.oneIn(2));
            case 4 -> same("takeOff(" + piece + ")", () -> board.takeOff(piece), () -> model.takeOff(piece));
            case 5, 6 -> same("turn(" + piece + ")", () -> board.turn(piece), () -> model.turn(piece));
            case 7, 8 -> same("flip(" + piece + ")", () -> board.flip(piece), () -> model.flip(piece));
            case 9 -> same("shift(" + dx + ", " + dy + ")", () -> board.shift(dx, dy), () -> model.shift(dx, dy));
            case 10, 11 -> same("keep()", board::keep, model::keep);
            case 12 -> same("remove(" + shape + ")", () -> board.remove(shape), () -> model.remove(shape));
            case 13 -> same("solve(" + shape + ")", () -> board.solve(shape), () -> model.solve(shape));
            case 14 -> same("undo()", board::undo, model::undo);
            default -> {
                if (dice.oneIn(2)) {
                    same("saveSnapshot(" + slot + ")", () -> board.saveSnapshot(slot), () -> model.saveSnapshot(slot));
                } else {
                    same("restoreSnapshot(" + slot + ")", () -> board.restoreSnapshot(slot),
                        () -> model.restoreSnapshot(slot));
                }
            }
        }
    }

    private void ask() {
        int piece = dice.around(6);
        int other = dice.around(6);
        int shape = dice.around(7);
        int what = dice.around(10);
        int quarter = dice.around(575);
        switch (dice.below(12)) {
            case 0 -> same("size(" + what + ")", () -> board.size(what), () -> model.size(what));
            case 1 -> same("piece(" + piece + ", " + what + ")", () -> board.piece(piece, what),
                () -> model.piece(piece, what));
            case 2 -> same("pieceAt(" + quarter + ")", () -> board.pieceAt(quarter), () -> model.pieceAt(quarter));
            case 3 -> askWhyNot(piece);
            case 4 -> same("places(" + piece + ")", () -> board.places(piece), () -> model.places(piece));
            case 5 -> askSeams(piece, other);
            case 6 -> askLoop(dice.around(3), dice.around(5));
            case 7 -> askEdge(dice.around(2), dice.around(9), dice.around(4));
            case 8 -> same("shape(" + shape + ", " + what + ")", () -> board.shape(shape, what),
                () -> model.shape(shape, what));
            case 9 -> same("hasQuarter(" + shape + ", " + quarter + ")", () -> board.hasQuarter(shape, quarter),
                () -> model.hasQuarter(shape, quarter));
            case 10 -> askSilhouette();
            default -> askShape(shape);
        }
    }

    private void askWhyNot(int piece) {
        int x = dice.around(12);
        int y = dice.around(12);
        int turn = dice.around(3);
        boolean flip = dice.oneIn(2);
        same("whyNot(" + piece + ", " + x + ", " + y + ", " + turn + ", " + flip + ")",
            () -> board.whyNot(piece, x, y, turn, flip), () -> model.whyNot(piece, x, y, turn, flip));
    }

    private void askSeams(int piece, int other) {
        same("seams(" + piece + ", " + other + ", true)", () -> board.seams(piece, other, true),
            () -> model.seams(piece, other, true));
        same("seams(" + piece + ", " + other + ", false)", () -> board.seams(piece, other, false),
            () -> model.seams(piece, other, false));
    }

    private void askLoop(int loop, int what) {
        same("loop(" + loop + ", " + what + ")", () -> board.loop(loop, what), () -> model.loop(loop, what));
    }

    private void askEdge(int loop, int edge, int what) {
        same("edge(" + loop + ", " + edge + ", " + what + ")", () -> board.edge(loop, edge, what),
            () -> model.edge(loop, edge, what));
    }

    private void askSilhouette() {
        same("matches()", board::matches, model::matches);
        same("inner()", board::inner, model::inner);
        same("perimeter()", board::perimeter, model::perimeter);
        same("fullness()", board::fullness, model::fullness);
        same("looks()", board::looks, model::looks);
        same("isSimple()", board::isSimple, model::isSimple);
        same("find()", board::find, model::find);
        same("kinds()", board::kinds, model::kinds);
    }

    private void askShape(int shape) {
        same("alike(" + shape + ")", () -> board.alike(shape), () -> model.alike(shape));
        same("missing(" + shape + ")", () -> board.missing(shape), () -> model.missing(shape));
        if (dice.oneIn(2)) {
            askWays(shape);
        }
    }

    private void askWays(int shape) {
        same("ways(" + shape + ")", () -> board.ways(shape), () -> model.ways(shape));
        for (int piece = -1; piece <= 7; piece++) {
            for (int what = -1; what <= 4; what++) {
                int p = piece;
                int w = what;
                same("firstWay(" + shape + ", " + p + ", " + w + ")", () -> board.firstWay(shape, p, w),
                    () -> model.firstWay(shape, p, w));
            }
        }
    }

    private void askAll() {
        askSilhouette();
        for (int what = -1; what <= 11; what++) {
            int w = what;
            same("size(" + w + ")", () -> board.size(w), () -> model.size(w));
        }
        for (int piece = 0; piece < 7; piece++) {
            int p = piece;
            same("places(" + p + ")", () -> board.places(p), () -> model.places(p));
            for (int i = 0; i <= 7; i++) {
                int w = i;
                same("piece(" + p + ", " + w + ")", () -> board.piece(p, w), () -> model.piece(p, w));
                askSeams(p, w);
            }
        }
        for (int loop = -1; loop <= model.size(5); loop++) {
            for (int edge = -1; edge <= 30; edge++) {
                for (int what = -1; what <= 5; what++) {
                    askEdge(loop, edge, what);
                }
            }
        }
        for (int shape = 0; shape < model.size(8); shape++) {
            int s = shape;
            askShape(s);
            for (int quarter = -2; quarter < 578; quarter++) {
                int q = quarter;
                same("hasQuarter(" + s + ", " + q + ")", () -> board.hasQuarter(s, q), () -> model.hasQuarter(s, q));
            }
        }
    }
}
