import java.nio.charset.StandardCharsets;
import java.util.ArrayDeque;
import java.util.ArrayList;
import java.util.Arrays;
import java.util.Collections;
import java.util.Deque;
import java.util.HashMap;
import java.util.HashSet;
import java.util.List;
import java.util.Map;
import java.util.NoSuchElementException;
import java.util.Set;
import java.util.TreeMap;
import java.util.TreeSet;
import java.util.regex.Matcher;
import java.util.regex.Pattern;

/**
 * The document once more, written with sets of quarters, points and polygons and without any haste: what the
 * program answers is compared with what this model answers.
 */
final class PlainModel {
    private static final int NONE = -1;
    private static final int[] DX = {1, 1, 0, -1, -1, -1, 0, 1};
    private static final int[] DY = {0, 1, 1, 1, 0, -1, -1, -1};
    private static final List<String> DIRECTIONS = List.of("e", "se", "s", "sw", "w", "nw", "n", "ne");
    private static final int[][] BOXES = {{4, 2}, {4, 2}, {2, 2}, {2, 2}, {3, 1}, {2, 1}, {2, 1}};
    private static final int[][][] POLYGONS = {
        {{0, 0}, {4, 0}, {2, 2}}, {{0, 0}, {4, 0}, {2, 2}}, {{0, 0}, {2, 0}, {0, 2}},
        {{1, 0}, {2, 1}, {1, 2}, {0, 1}}, {{0, 0}, {2, 0}, {3, 1}, {1, 1}},
        {{0, 0}, {2, 0}, {1, 1}}, {{0, 0}, {2, 0}, {1, 1}}};

    record Spot(int x, int y, int turn, boolean flip) { }

    record Point(int x, int y) { }

    record Border(Point begin, Point end, int direction) { }

    /** The placing (null for a piece that is off) and the catalogue. */
    record Held(List<Spot> spots, List<Set<Integer>> shapes) { }

    private static final class TextError extends RuntimeException {
        private static final long serialVersionUID = 1L;
        final int offset;
        final int code;

        TextError(int offset, int code) {
            this.offset = offset;
            this.code = code;
        }
    }

    private int width = 8;
    private int height = 8;
    private Spot[] spots = new Spot[7];
    private List<Set<Integer>> shapes = new ArrayList<>();
    private Deque<Held> past = new ArrayDeque<>();
    private final Held[] slots = new Held[2];
    private String buffer = "";

    // ---- geometry

    /** A point well inside of a quarter, in sixths of a cell. */
    private static Point middle(int quarter) {
        int x = 6 * (quarter / 4 % 12);
        int y = 6 * (quarter / 48);
        return switch (quarter % 4) {
            case 0 -> new Point(x + 3, y + 1);
            case 1 -> new Point(x + 5, y + 3);
            case 2 -> new Point(x + 3, y + 5);
            default -> new Point(x + 1, y + 3);
        };
    }

    private static int quarterOf(Point middle) {
        int cell = 4 * (12 * Math.floorDiv(middle.y, 6) + Math.floorDiv(middle.x, 6));
        int a = Math.floorMod(middle.x, 6);
        int b = Math.floorMod(middle.y, 6);
        return cell + (b == 1 ? 0 : a == 5 ? 1 : b == 5 ? 2 : 3);
    }

    /** Whether a line from the middle to the right crosses an odd number of sides (corners in cells). */
    private static boolean isInside(Point middle, List<Point> corners) {
        boolean odd = false;
        for (int i = 0; i < corners.size(); i++) {
            Point a = corners.get(i);
            Point b = corners.get((i + 1) % corners.size());
            if (6 * a.y > middle.y != 6 * b.y > middle.y) {
                double crossing = 6.0 * a.x + (middle.y - 6.0 * a.y) * (b.x - a.x) / (b.y - a.y);
                if (crossing > middle.x) {
                    odd = !odd;
                }
            }
        }
        return odd;
    }

    private static Set<Integer> inside(List<Point> corners) {
        Set<Integer> found = new TreeSet<>();
        for (int quarter = 0; quarter < 576; quarter++) {
            if (isInside(middle(quarter), corners)) {
                found.add(quarter);
            }
        }
        return found;
    }

    /** A point, flipped and turned as a piece in a box; scale is the unit of the point in a cell. */
    private static Point moved(Point p, int boxWidth, int boxHeight, int scale, int turn, boolean flip) {
        Point q = flip ? new Point(scale * boxWidth - p.x, p.y) : p;
        int w = boxWidth;
        int h = boxHeight;
        for (int i = 0; i < turn; i++) {
            q = new Point(scale * h - q.y, q.x);
            int side = w;
            w = h;
            h = side;
        }
        return q;
    }

    private static List<Point> corners(int piece, Spot spot) {
        List<Point> found = new ArrayList<>();
        for (int[] corner : POLYGONS[piece]) {
            Point p = moved(new Point(corner[0], corner[1]), BOXES[piece][0], BOXES[piece][1], 1, spot.turn, spot.flip);
            found.add(new Point(p.x + spot.x, p.y + spot.y));
        }
        return found;
    }

    private final Map<List<Object>, Set<Integer>> coveredBefore = new HashMap<>();

    private Set<Integer> covered(int piece, Spot spot) {
        return coveredBefore.computeIfAbsent(List.of(piece, spot), k -> inside(corners(piece, spot)));
    }

    private static int boxSide(int piece, int turn, int which) {
        return BOXES[piece][(which + turn) % 2];
    }

    private boolean isBoxOnBoard(int piece, long x, long y, int turn) {
        return x >= 0 && y >= 0 && x + boxSide(piece, turn, 0) <= width && y + boxSide(piece, turn, 1) <= height;
    }

    private Set<Integer> silhouette() {
        Set<Integer> all = new TreeSet<>();
        for (int piece = 0; piece < 7; piece++) {
            if (spots[piece] != null) {
                all.addAll(covered(piece, spots[piece]));
            }
        }
        return all;
    }

    private boolean isQuarter(int quarter) {
        return quarter >= 0 && quarter < 576 && quarter / 4 % 12 < width && quarter / 48 < height;
    }

    /** The quarters next to a quarter, the one at its long side first; NONE where there is none. */
    private int[] next(int quarter) {
        int k = quarter % 4;
        int cell = quarter - k;
        int[] out = {-48, 4, 48, -4};
        int x = quarter / 4 % 12;
        boolean leaves = k == 1 && x == 11 || k == 3 && x == 0;
        int beyond = leaves ? NONE : cell + out[k] + (k + 2) % 4;
        return new int[] {isQuarter(beyond) ? beyond : NONE, cell + (k + 1) % 4, cell + (k + 3) % 4};
    }

    private int parts(Set<Integer> set) {
        Set<Integer> rest = new HashSet<>(set);
        int count = 0;
        while (!rest.isEmpty()) {
            count++;
            Deque<Integer> open = new ArrayDeque<>(List.of(rest.iterator().next()));
            rest.remove(open.peek());
            while (!open.isEmpty()) {
                for (int n : next(open.pop())) {
                    if (rest.remove(n)) {
                        open.push(n);
                    }
                }
            }
        }
        return count;
    }

    /** Corners in half cells of a quarter: those of its long side, then the middle of the cell; clockwise. */
    private static Point[] triangle(int quarter) {
        int x = 2 * (quarter / 4 % 12);
        int y = 2 * (quarter / 48);
        Point[] c = {new Point(x, y), new Point(x + 2, y), new Point(x + 2, y + 2), new Point(x, y + 2)};
        return new Point[] {c[quarter % 4], c[(quarter + 1) % 4], new Point(x + 1, y + 1)};
    }

    private static int directionOf(Point a, Point b) {
        for (int d = 0; d < 8; d++) {
            if (Integer.signum(b.x - a.x) == DX[d] && Integer.signum(b.y - a.y) == DY[d]) {
                return d;
            }
        }
        throw new IllegalStateException();
    }

    private List<Border> allBorders() {
        Set<Integer> set = silhouette();
        List<Border> borders = new ArrayList<>();
        for (int quarter : set) {
            Point[] t = triangle(quarter);
            int[] n = next(quarter);
            for (int side = 0; side < 3; side++) {
                if (!set.contains(n[side])) {
                    Point a = t[side];
                    Point b = t[(side + 1) % 3];
                    borders.add(new Border(a, b, directionOf(a, b)));
                }
            }
        }
        borders.sort((p, q) -> p.begin.y != q.begin.y ? p.begin.y - q.begin.y
            : p.begin.x != q.begin.x ? p.begin.x - q.begin.x : p.direction - q.direction);
        return borders;
    }

    private List<List<Border>> loops() {
        List<Border> rest = allBorders();
        List<Border> all = List.copyOf(rest);
        List<List<Border>> loops = new ArrayList<>();
        while (!rest.isEmpty()) {
            Border first = rest.get(0);
            List<Border> loop = new ArrayList<>();
            Border border = first;
            do {
                loop.add(border);
                rest.remove(border);
                Border best = null;
                for (Border b : all) {
                    if (b.begin.equals(border.end)
                        && (best == null || sharpness(border, b) > sharpness(border, best))) {
                        best = b;
                    }
                }
                border = best;
            } while (!border.equals(first));
            loops.add(loop);
        }
        return loops;
    }

    private static int sharpness(Border from, Border to) {
        return Math.floorMod(to.direction - from.direction + 3, 8);
    }

    private static List<List<Border>> edges(List<Border> loop) {
        List<List<Border>> edges = new ArrayList<>();
        for (Border border : loop) {
            if (edges.isEmpty() || edges.get(edges.size() - 1).get(0).direction != border.direction) {
                edges.add(new ArrayList<>());
            }
            edges.get(edges.size() - 1).add(border);
        }
        return edges;
    }

    private static boolean isHole(List<Border> loop) {
        int sum = 0;
        for (Border b : loop) {
            sum += b.begin.x * b.end.y - b.end.x * b.begin.y;
        }
        return sum < 0;
    }

    // ---- shapes

    /** Left, top, width, height of the least box. */
    private static int[] box(Set<Integer> set) {
        int left = 99;
        int top = 99;
        int right = -1;
        int bottom = -1;
        for (int quarter : set) {
            left = Math.min(left, quarter / 4 % 12);
            right = Math.max(right, quarter / 4 % 12);
            top = Math.min(top, quarter / 48);
            bottom = Math.max(bottom, quarter / 48);
        }
        return new int[] {left, top, right + 1 - left, bottom + 1 - top};
    }

    private static Set<Integer> look(Set<Integer> set, int turn, boolean flip) {
        int[] box = box(set);
        Set<Integer> found = new TreeSet<>();
        for (int quarter : set) {
            Point p = middle(quarter);
            Point q = moved(new Point(p.x - 6 * box[0], p.y - 6 * box[1]), box[2], box[3], 6, turn, flip);
            found.add(quarterOf(q));
        }
        return found;
    }

    private static int likeness(Set<Integer> one, Set<Integer> two) {
        if (one.equals(two)) {
            return 1;
        }
        if (one.isEmpty() || two.isEmpty()) {
            return 0;
        }
        Set<Integer> plain = look(two, 0, false);
        for (int flip = 0; flip < 2; flip++) {
            for (int turn = 0; turn < 4; turn++) {
                if (look(one, turn, flip == 1).equals(plain)) {
                    return flip == 1 ? 4 : turn == 0 ? 2 : 3;
                }
            }
        }
        return 0;
    }

    private static int kindOf(int piece) {
        return piece == 1 ? 0 : piece == 6 ? 5 : piece;
    }

    /** All ways as texts that are equal for equal ways: it always covers the LAST open quarter. */
    private void collectWays(Set<Integer> open, List<Integer> left, List<String> chosen, Set<String> ways) {
        if (left.isEmpty()) {
            if (open.isEmpty()) {
                List<String> sorted = new ArrayList<>(chosen);
                Collections.sort(sorted);
                ways.add(sorted.toString());
            }
            return;
        }
        if (open.isEmpty()) {
            return;
        }
        int last = Collections.max(open);
        Set<Integer> triedKinds = new HashSet<>();
        for (int piece : left) {
            if (triedKinds.add(kindOf(piece))) {
                List<Integer> fewer = new ArrayList<>(left);
                fewer.remove((Integer) piece);
                for (Set<Integer> cover : coversOf(piece, last)) {
                    if (open.containsAll(cover)) {
                        Set<Integer> rest = new TreeSet<>(open);
                        rest.removeAll(cover);
                        chosen.add(kindOf(piece) + ":" + cover);
                        collectWays(rest, fewer, chosen, ways);
                        chosen.remove(chosen.size() - 1);
                    }
                }
            }
        }
    }

    private Set<Set<Integer>> coversOf(int piece, int quarter) {
        Set<Set<Integer>> found = new HashSet<>();
        for (Spot spot : spotsAt(piece, quarter)) {
            found.add(covered(piece, spot));
        }
        return found;
    }

    /** The places on the board by which a piece covers a quarter, by turn, then flip. */
    private List<Spot> spotsAt(int piece, int quarter) {
        List<Spot> found = new ArrayList<>();
        for (int turn = 0; turn < 4; turn++) {
            for (int flip = 0; flip < 2; flip++) {
                for (int y = Math.max(0, quarter / 48 - 4); y <= quarter / 48; y++) {
                    for (int x = Math.max(0, quarter / 4 % 12 - 4); x <= quarter / 4 % 12; x++) {
                        Spot spot = new Spot(x, y, turn, flip == 1);
                        if (isBoxOnBoard(piece, x, y, turn) && covered(piece, spot).contains(quarter)) {
                            found.add(spot);
                        }
                    }
                }
            }
        }
        return found;
    }

    private boolean fillFirst(Set<Integer> open, Spot[] way) {
        if (open.isEmpty()) {
            return Arrays.stream(way).allMatch(s -> s != null);
        }
        int first = Collections.min(open);
        for (int piece = 0; piece < 7; piece++) {
            if (way[piece] == null) {
                for (Spot spot : spotsAt(piece, first)) {
                    Set<Integer> cover = covered(piece, spot);
                    if (open.containsAll(cover)) {
                        way[piece] = spot;
                        Set<Integer> rest = new TreeSet<>(open);
                        rest.removeAll(cover);
                        if (fillFirst(rest, way)) {
                            return true;
                        }
                        way[piece] = null;
                    }
                }
            }
        }
        return false;
    }

    private final Map<List<Object>, Spot[]> firstWaysBefore = new HashMap<>();
    private final Map<List<Object>, Integer> waysBefore = new HashMap<>();

    /** The first way, or null. */
    private Spot[] firstWayOf(Set<Integer> shape) {
        List<Object> key = List.of(width, height, shape);
        if (!firstWaysBefore.containsKey(key)) {
            Spot[] way = new Spot[7];
            boolean isFilled = shape.size() == 64 && fillFirst(shape, way);
            firstWaysBefore.put(key, isFilled ? way : null);
        }
        return firstWaysBefore.get(key);
    }

    // ---- texts

    record Mark(String text, int offset) { }

    private static final class Marks {
        final List<Mark> marks = new ArrayList<>();
        int index;
        final int end;

        Marks(String text) {
            end = text.length();
            Matcher m = Pattern.compile("[a-z]+|[0-9]+|[^ \n]", Pattern.DOTALL).matcher(text);
            while (m.find()) {
                marks.add(new Mark(m.group(), m.start()));
            }
        }

        boolean hasMore() {
            return index < marks.size();
        }

        String peek() {
            return hasMore() ? marks.get(index).text : "";
        }

        int offset() {
            return hasMore() ? marks.get(index).offset : end;
        }

        void word(String wanted) {
            if (!peek().equals(wanted)) {
                throw new TextError(offset(), 1);
            }
            index++;
        }

        int number(int least, int most) {
            if (!peek().matches("[0-9]{1,2}")) {
                throw new TextError(offset(), 1);
            }
            int value = Integer.parseInt(peek());
            if (value < least || value > most) {
                throw new TextError(offset(), 2);
            }
            index++;
            return value;
        }
    }

    private static PlainModel read(String text) {
        PlainModel m = new PlainModel();
        Marks marks = new Marks(text);
        marks.word("board");
        m.width = marks.number(4, 12);
        m.height = marks.number(4, 12);
        marks.word(";");
        while (marks.hasMore()) {
            if (marks.peek().equals("shape")) {
                m.readShape(marks);
            } else {
                m.readPiece(marks);
            }
        }
        return m;
    }

    private void readPiece(Marks marks) {
        marks.word("piece");
        int offset = marks.offset();
        int piece = marks.number(0, 6);
        if (spots[piece] != null) {
            throw new TextError(offset, 3);
        }
        marks.word("at");
        int x = marks.number(0, width - 1);
        int y = marks.number(0, height - 1);
        marks.word("turn");
        int turn = marks.number(0, 3);
        boolean flip = marks.peek().equals("flip");
        if (flip) {
            marks.word("flip");
        }
        offset = marks.offset();
        marks.word(";");
        if (whyNot(piece, x, y, turn, flip) != 0) {
            throw new TextError(offset, 3);
        }
        spots[piece] = new Spot(x, y, turn, flip);
    }

    private void readShape(Marks marks) {
        if (shapes.size() == 8) {
            throw new TextError(marks.offset(), 4);
        }
        marks.word("shape");
        int x = marks.number(0, width);
        int y = marks.number(0, height);
        List<Point> corners = new ArrayList<>(List.of(new Point(x, y)));
        do {
            int direction = DIRECTIONS.indexOf(marks.peek());
            if (direction < 0) {
                throw new TextError(marks.offset(), 1);
            }
            marks.index++;
            int offset = marks.offset();
            int length = marks.number(1, 12);
            x += length * DX[direction];
            y += length * DY[direction];
            if (x < 0 || x > width || y < 0 || y > height) {
                throw new TextError(offset, 2);
            }
            corners.add(new Point(x, y));
        } while (!marks.peek().equals(";"));
        int offset = marks.offset();
        marks.word(";");
        Set<Integer> set = inside(corners);
        if (!corners.get(0).equals(corners.get(corners.size() - 1)) || set.isEmpty()) {
            throw new TextError(offset, 3);
        }
        shapes.add(set);
    }

    // ---- the face

    int append(int a, int b, int c, int d, int e) {
        if (buffer.length() + 20 > 700) {
            return NONE;
        }
        byte[] bytes = java.nio.ByteBuffer.allocate(20).putInt(a).putInt(b).putInt(c).putInt(d).putInt(e).array();
        buffer += new String(bytes, StandardCharsets.ISO_8859_1);
        return buffer.length();
    }

    int parse(int bytes) {
        if (bytes < 0 || bytes > buffer.length()) {
            throw new IllegalArgumentException();
        }
        String text = buffer.substring(0, bytes);
        buffer = "";
        PlainModel m;
        try {
            m = read(text);
        } catch (TextError e) {
            return -2 - (8 * e.offset + e.code);
        }
        width = m.width;
        height = m.height;
        spots = m.spots;
        shapes = m.shapes;
        past.clear();
        slots[0] = null;
        slots[1] = null;
        return shapes.size();
    }

    private static void range(int what, int most) {
        if (what < 0 || what > most) {
            throw new IllegalArgumentException();
        }
    }

    private static void needPiece(int piece) {
        if (piece < 0 || piece > 6) {
            throw new IndexOutOfBoundsException();
        }
    }

    private Set<Integer> needShape(int shape) {
        if (shape < 0 || shape >= shapes.size()) {
            throw new IndexOutOfBoundsException();
        }
        return shapes.get(shape);
    }

    private List<Border> needLoop(int loop) {
        List<List<Border>> loops = loops();
        if (loop < 0 || loop >= loops.size()) {
            throw new NoSuchElementException();
        }
        return loops.get(loop);
    }

    int size(int what) {
        range(what, 10);
        return switch (what) {
            case 0 -> width;
            case 1 -> height;
            case 2 -> (int) Arrays.stream(spots).filter(s -> s != null).count();
            case 3 -> silhouette().size();
            case 4 -> parts(silhouette());
            case 5 -> loops().size();
            case 6 -> (int) loops().stream().filter(PlainModel::isHole).count();
            case 7 -> loops().stream().mapToInt(l -> edges(l).size()).sum();
            case 8 -> shapes.size();
            case 9 -> past.size();
            default -> buffer.length();
        };
    }

    private static int tell(Spot spot, int what) {
        if (spot == null) {
            return NONE;
        }
        return what == 0 ? spot.x : what == 1 ? spot.y : what == 2 ? spot.turn : spot.flip ? 1 : 0;
    }

    int piece(int piece, int what) {
        needPiece(piece);
        range(what, 7);
        if (what < 4) {
            return tell(spots[piece], what);
        }
        if (what < 6) {
            return boxSide(piece, spots[piece] == null ? 0 : spots[piece].turn, what - 4);
        }
        Set<Set<Integer>> covers = new HashSet<>();
        for (int turn = 0; turn < 4; turn++) {
            covers.add(covered(piece, new Spot(0, 0, turn, false)));
            covers.add(covered(piece, new Spot(0, 0, turn, true)));
        }
        return what == 6 ? covers.iterator().next().size() : covers.size();
    }

    int pieceAt(int quarter) {
        for (int piece = 0; piece < 7; piece++) {
            if (spots[piece] != null && covered(piece, spots[piece]).contains(quarter)) {
                return piece;
            }
        }
        return NONE;
    }

    int whyNot(int piece, int x, int y, int turn, boolean flip) {
        needPiece(piece);
        range(turn, 3);
        if (!isBoxOnBoard(piece, x, y, turn)) {
            return 1;
        }
        Set<Integer> cover = covered(piece, new Spot(x, y, turn, flip));
        for (int other = 0; other < 7; other++) {
            if (other != piece && spots[other] != null && !Collections.disjoint(cover, covered(other, spots[other]))) {
                return 2 + other;
            }
        }
        return 0;
    }

    int places(int piece) {
        needPiece(piece);
        Set<Set<Integer>> covers = new HashSet<>();
        for (int turn = 0; turn < 4; turn++) {
            for (int flip = 0; flip < 2; flip++) {
                for (int y = 0; y < height; y++) {
                    for (int x = 0; x < width; x++) {
                        if (whyNot(piece, x, y, turn, flip == 1) == 0) {
                            covers.add(covered(piece, new Spot(x, y, turn, flip == 1)));
                        }
                    }
                }
            }
        }
        return covers.size();
    }

    int seams(int piece, int other, boolean isLong) {
        needPiece(piece);
        needPiece(other);
        int count = 0;
        if (piece != other && spots[piece] != null && spots[other] != null) {
            for (int quarter : covered(piece, spots[piece])) {
                int[] n = next(quarter);
                for (int side = 0; side < 3; side++) {
                    if (isLong == (side == 0) && covered(other, spots[other]).contains(n[side])) {
                        count++;
                    }
                }
            }
        }
        return count;
    }

    private Set<Set<Point>> sides(int piece) {
        List<Point> corners = corners(piece, spots[piece]);
        Set<Set<Point>> sides = new HashSet<>();
        for (int i = 0; i < corners.size(); i++) {
            sides.add(Set.of(corners.get(i), corners.get((i + 1) % corners.size())));
        }
        return sides;
    }

    int matches() {
        int count = 0;
        for (int piece = 0; piece < 7; piece++) {
            for (int other = piece + 1; other < 7; other++) {
                if (spots[piece] != null && spots[other] != null) {
                    Set<Set<Point>> common = sides(piece);
                    common.retainAll(sides(other));
                    count += common.size();
                }
            }
        }
        return count;
    }

    int inner() {
        Set<Integer> all = silhouette();
        int sum = 0;
        for (int piece = 0; piece < 7; piece++) {
            if (spots[piece] != null) {
                boolean isInner = true;
                for (int quarter : covered(piece, spots[piece])) {
                    for (int n : next(quarter)) {
                        isInner &= all.contains(n);
                    }
                }
                sum += isInner ? (int) Math.pow(2, piece) : 0;
            }
        }
        return sum;
    }

    int loop(int loop, int what) {
        List<Border> borders = needLoop(loop);
        range(what, 5);
        return switch (what) {
            case 0 -> edges(borders).size();
            case 1 -> (int) borders.stream().filter(b -> b.direction % 2 == 0).count();
            case 2 -> (int) borders.stream().filter(b -> b.direction % 2 == 1).count();
            case 3 -> isHole(borders) ? 1 : 0;
            case 4 -> borders.get(0).begin.x;
            default -> borders.get(0).begin.y;
        };
    }

    int edge(int loop, int edge, int what) {
        List<List<Border>> edges = edges(needLoop(loop));
        if (edge < 0 || edge >= edges.size()) {
            throw new NoSuchElementException();
        }
        range(what, 4);
        List<Border> e = edges.get(edge);
        List<Border> ahead = edges.get((edge + edges.size() - 1) % edges.size());
        Border first = e.get(0);
        return switch (what) {
            case 0 -> first.direction;
            case 1 -> e.size();
            case 2 -> first.begin.x;
            case 3 -> first.begin.y;
            default -> Math.floorMod(first.direction - ahead.get(0).direction + 3, 8) - 3;
        };
    }

    double perimeter() {
        List<Border> all = allBorders();
        int longs = (int) all.stream().filter(b -> b.direction % 2 == 0).count();
        return (double) longs + (double) (all.size() - longs) * 0.7071067811865476;
    }

    float fullness() {
        Set<Integer> all = silhouette();
        int[] box = box(all);
        return all.isEmpty() ? 0.0f : (float) all.size() / (float) (4 * box[2] * box[3]);
    }

    int looks() {
        Set<Integer> all = silhouette();
        Set<Set<Integer>> looks = new HashSet<>();
        for (int turn = 0; turn < 4 && !all.isEmpty(); turn++) {
            looks.add(look(all, turn, false));
            looks.add(look(all, turn, true));
        }
        return looks.size();
    }

    boolean isSimple() {
        Map<String, Integer> starts = new TreeMap<>();
        for (Border b : allBorders()) {
            starts.merge(b.begin.toString(), 1, Integer::sum);
        }
        return size(4) == 1 && size(6) == 0 && starts.values().stream().allMatch(n -> n == 1);
    }

    int shape(int shape, int what) {
        Set<Integer> set = needShape(shape);
        range(what, 4);
        return what == 0 ? set.size() : box(set)[what - 1];
    }

    boolean hasQuarter(int shape, int quarter) {
        return needShape(shape).contains(quarter);
    }

    int alike(int shape) {
        return likeness(silhouette(), needShape(shape));
    }

    int find() {
        for (int shape = 0; shape < shapes.size(); shape++) {
            if (alike(shape) != 0) {
                return shape;
            }
        }
        return NONE;
    }

    int kinds() {
        List<Set<Integer>> different = new ArrayList<>();
        for (Set<Integer> shape : shapes) {
            if (different.stream().allMatch(s -> likeness(s, shape) == 0)) {
                different.add(shape);
            }
        }
        return different.size();
    }

    int missing(int shape) {
        Set<Integer> both = new HashSet<>(needShape(shape));
        both.retainAll(silhouette());
        return needShape(shape).size() + silhouette().size() - 2 * both.size();
    }

    int ways(int shape) {
        Set<Integer> set = needShape(shape);
        if (set.size() != 64) {
            return 0;
        }
        return waysBefore.computeIfAbsent(List.of(width, height, set), k -> {
            Set<String> ways = new HashSet<>();
            collectWays(set, List.of(0, 1, 2, 3, 4, 5, 6), new ArrayList<>(), ways);
            return Math.min(1000, ways.size());
        });
    }

    int firstWay(int shape, int piece, int what) {
        Set<Integer> set = needShape(shape);
        needPiece(piece);
        range(what, 3);
        Spot[] way = firstWayOf(set);
        return way == null ? NONE : tell(way[piece], what);
    }

    private Held held() {
        return new Held(new ArrayList<>(Arrays.asList(spots)), new ArrayList<>(shapes));
    }

    private void hold(Held held) {
        spots = held.spots.toArray(new Spot[0]);
        shapes = new ArrayList<>(held.shapes);
    }

    private void remember() {
        past.push(held());
        if (past.size() > 8) {
            past.removeLast();
        }
    }

    int place(int piece, int x, int y, int turn, boolean flip) {
        int why = whyNot(piece, x, y, turn, flip);
        if (why != 0) {
            return -why;
        }
        remember();
        spots[piece] = new Spot(x, y, turn, flip);
        return silhouette().size();
    }

    boolean takeOff(int piece) {
        needPiece(piece);
        remember();
        boolean was = spots[piece] != null;
        spots[piece] = null;
        return was;
    }

    int turn(int piece) {
        needPiece(piece);
        Spot s = spots[piece];
        if (s == null || whyNot(piece, s.x, s.y, (s.turn + 1) % 4, s.flip) != 0) {
            return NONE;
        }
        place(piece, s.x, s.y, (s.turn + 1) % 4, s.flip);
        return (s.turn + 1) % 4;
    }

    int flip(int piece) {
        needPiece(piece);
        Spot s = spots[piece];
        if (s == null || whyNot(piece, s.x, s.y, s.turn, !s.flip) != 0) {
            return NONE;
        }
        place(piece, s.x, s.y, s.turn, !s.flip);
        return s.flip ? 0 : 1;
    }

    boolean shift(int dx, int dy) {
        for (int piece = 0; piece < 7; piece++) {
            Spot s = spots[piece];
            if (s != null && !isBoxOnBoard(piece, (long) s.x + dx, (long) s.y + dy, s.turn)) {
                return false;
            }
        }
        remember();
        for (int piece = 0; piece < 7; piece++) {
            Spot s = spots[piece];
            if (s != null) {
                spots[piece] = new Spot(s.x + dx, s.y + dy, s.turn, s.flip);
            }
        }
        return true;
    }

    int keep() {
        if (shapes.size() == 8 || silhouette().isEmpty()) {
            return NONE;
        }
        remember();
        shapes.add(silhouette());
        return shapes.size() - 1;
    }

    int remove(int shape) {
        needShape(shape);
        remember();
        shapes.remove(shape);
        return shapes.size();
    }

    boolean solve(int shape) {
        Spot[] way = firstWayOf(needShape(shape));
        if (way == null) {
            return false;
        }
        remember();
        spots = way.clone();
        return true;
    }

    int undo() {
        if (past.isEmpty()) {
            return NONE;
        }
        hold(past.pop());
        return past.size();
    }

    boolean saveSnapshot(int slot) {
        range(slot, 1);
        boolean was = slots[slot] != null;
        slots[slot] = held();
        return was;
    }

    int restoreSnapshot(int slot) {
        range(slot, 1);
        if (slots[slot] == null) {
            throw new IllegalStateException();
        }
        hold(slots[slot]);
        past.clear();
        return size(2);
    }

    long checksum() {
        List<Integer> numbers = new ArrayList<>();
        for (int what = 0; what < 9; what++) {
            numbers.add(size(what));
        }
        for (int piece = 0; piece < 7; piece++) {
            for (int what = 0; what < 4; what++) {
                numbers.add(piece(piece, what));
            }
        }
        for (int quarter = 0; quarter < 576; quarter++) {
            if (isQuarter(quarter)) {
                numbers.add(pieceAt(quarter));
            }
        }
        for (int loop = 0; loop < size(5); loop++) {
            for (int what = 0; what < 6; what++) {
                numbers.add(loop(loop, what));
            }
        }
        for (int shape = 0; shape < shapes.size(); shape++) {
            for (int what = 0; what < 5; what++) {
                numbers.add(shape(shape, what));
            }
        }
        long sum = 0;
        for (int n : numbers) {
            sum = 31 * sum + n;
        }
        return sum;
    }
}
