import java.util.Arrays;
import java.util.NoSuchElementException;

/** A board for the seven pieces of a tangram, with the catalogue of their silhouettes. */
public final class TangramBoard {
    public static final int NONE = -1;

    private static final int PIECES = 7;
    private static final int TURNS = 4;
    // A form is a turn and a flip: 2 * turn, plus 1 if it is flipped. This is the order of the first way, too.
    private static final int FORMS = 8;
    private static final int MOST_CORNERS = 4;
    private static final int LEAST_SIDE = 4;
    private static final int SIDE = 12;
    private static final int ROW = 4 * SIDE;
    private static final int QUARTERS = ROW * SIDE;
    private static final int COVERED_BY_ALL = 64;
    private static final int MOST_BORDERS = 3 * COVERED_BY_ALL;
    // Points are numbered row by row, in half cells.
    private static final int POINT_ROW = 2 * SIDE + 1;
    private static final int POINTS = POINT_ROW * POINT_ROW;
    private static final int LOOKS = 8;
    private static final int MOST_SHAPES = 8;
    private static final int MOST_CHANGES = 8;
    private static final int SLOTS = 2;
    private static final int MOST_BYTES = 700;
    private static final int MOST_WAYS = 1000;
    private static final int MOST_LENGTH = 12;

    private static final int[] DX = {1, 1, 0, -1, -1, -1, 0, 1};
    private static final int[] DY = {0, 1, 1, 1, 0, -1, -1, -1};

    private static final int[] BOX_WIDTH = {4, 4, 2, 2, 3, 2, 2};
    private static final int[] BOX_HEIGHT = {2, 2, 2, 2, 1, 1, 1};
    private static final int[] CORNER_COUNT = {3, 3, 3, 4, 4, 3, 3};
    // For each piece the x and y of four corners; a triangle leaves the last one out.
    private static final int[] CORNERS = {
        0, 0, 4, 0, 2, 2, 0, 0,
        0, 0, 4, 0, 2, 2, 0, 0,
        0, 0, 2, 0, 0, 2, 0, 0,
        1, 0, 2, 1, 1, 2, 0, 1,
        0, 0, 2, 0, 3, 1, 1, 1,
        0, 0, 2, 0, 1, 1, 0, 0,
        0, 0, 2, 0, 1, 1, 0, 0,
    };
    // For each piece the other one of its kind that has a lower number.
    private static final int[] LOWER_TWIN = {NONE, 0, NONE, NONE, NONE, NONE, 5};

    private static final Token[] TOKENS = Token.values();

    private final Form[] forms;
    private final State now;
    private final State[] past;
    private int pastCount;
    private final State[] slots;
    private final boolean[] isSaved;
    private final Silhouette silhouette;
    private final Outline outline;
    private final Looks lookTable;
    private final Filler filler;
    private final Parser parser;

    public TangramBoard() {
        forms = makeForms();
        now = new State();
        past = makeStates(MOST_CHANGES);
        slots = makeStates(SLOTS);
        isSaved = new boolean[SLOTS];
        silhouette = new Silhouette();
        outline = new Outline();
        lookTable = new Looks();
        filler = new Filler();
        parser = new Parser();
    }

    private static Form[] makeForms() {
        Form[] made = new Form[PIECES * FORMS];
        for (int piece = 0; piece < PIECES; piece++) {
            for (int form = 0; form < FORMS; form++) {
                Form next = new Form(piece, form);
                made[piece * FORMS + form] = next;
                for (int earlier = 0; earlier < form; earlier++) {
                    if (made[piece * FORMS + earlier].region.hasSameQuarters(next.region)) {
                        next.isNew = false;
                    }
                }
            }
        }
        return made;
    }

    private static State[] makeStates(int count) {
        State[] made = new State[count];
        for (int i = 0; i < count; i++) {
            made[i] = new State();
        }
        return made;
    }

    // ---- texts

    public int append(int a, int b, int c, int d, int e) {
        Tokens tokens = parser.tokens;
        if (tokens.length + 20 > MOST_BYTES) {
            return NONE;
        }
        tokens.addBytes(a);
        tokens.addBytes(b);
        tokens.addBytes(c);
        tokens.addBytes(d);
        tokens.addBytes(e);
        return tokens.length;
    }

    public int parse(int bytes) throws IllegalArgumentException {
        if (bytes < 0 || bytes > parser.tokens.length) {
            throw new IllegalArgumentException("bytes is out of range");
        }
        parser.readText(forms, bytes);
        parser.tokens.length = 0;
        if (parser.code != 0) {
            return -2 - (8 * parser.offset + parser.code);
        }
        now.copy(parser.draft);
        pastCount = 0;
        for (int slot = 0; slot < SLOTS; slot++) {
            isSaved[slot] = false;
        }
        refresh();
        return now.shapeCount;
    }

    public int size(int what) throws IllegalArgumentException {
        checkWhat(what, 10);
        switch (what) {
            case 0: return now.width;
            case 1: return now.height;
            case 2: return now.placing.countPlaced();
            case 3: return silhouette.region.quarters;
            case 4: return silhouette.parts;
            case 5: return outline.loops;
            case 6: return outline.countHoles();
            case 7: return outline.edges;
            case 8: return now.shapeCount;
            case 9: return pastCount;
            default: return parser.tokens.length;
        }
    }

    // ---- pieces

    public int piece(int piece, int what) throws IndexOutOfBoundsException, IllegalArgumentException {
        checkPiece(piece);
        checkWhat(what, 7);
        if (what <= 3) {
            return now.placing.tell(piece, what);
        }
        int form = now.placing.isOff(piece) ? 0 : now.placing.form[piece];
        Region region = formAt(forms, piece, form).region;
        switch (what) {
            case 4: return region.width;
            case 5: return region.height;
            case 6: return region.quarters;
            default: return countNewForms(piece);
        }
    }

    private int countNewForms(int piece) {
        int count = 0;
        for (int form = 0; form < FORMS; form++) {
            if (formAt(forms, piece, form).isNew) {
                count++;
            }
        }
        return count;
    }

    public int pieceAt(int quarter) {
        return silhouette.ownerAt(quarter);
    }

    public int whyNot(int piece, int x, int y, int turn, boolean flip)
            throws IndexOutOfBoundsException, IllegalArgumentException {
        checkPiece(piece);
        checkTurn(turn);
        return now.hindrance(forms, piece, x, y, formOf(turn, flip));
    }

    public int places(int piece) throws IndexOutOfBoundsException {
        checkPiece(piece);
        int count = 0;
        for (int form = 0; form < FORMS; form++) {
            if (formAt(forms, piece, form).isNew) {
                count += countSpots(piece, form);
            }
        }
        return count;
    }

    private int countSpots(int piece, int form) {
        int count = 0;
        for (int y = 0; y < now.height; y++) {
            for (int x = 0; x < now.width; x++) {
                if (now.hindrance(forms, piece, x, y, form) == 0) {
                    count++;
                }
            }
        }
        return count;
    }

    public int seams(int piece, int other, boolean isLong) throws IndexOutOfBoundsException {
        checkPiece(piece);
        checkPiece(other);
        return piece == other ? 0 : silhouette.countSeams(piece, other, isLong);
    }

    public int matches() {
        int count = 0;
        for (int piece = 0; piece < PIECES; piece++) {
            for (int other = piece + 1; other < PIECES; other++) {
                if (!now.placing.isOff(piece) && !now.placing.isOff(other)) {
                    count += countMatches(piece, other);
                }
            }
        }
        return count;
    }

    private int countMatches(int piece, int other) {
        Placing placing = now.placing;
        Form one = formAt(forms, piece, placing.form[piece]);
        Form two = formAt(forms, other, placing.form[other]);
        int dx = placing.x[other] - placing.x[piece];
        int dy = placing.y[other] - placing.y[piece];
        int count = 0;
        for (int side = 0; side < one.corners; side++) {
            for (int otherSide = 0; otherSide < two.corners; otherSide++) {
                if (haveSameEnds(one, side, two, otherSide, dx, dy)) {
                    count++;
                }
            }
        }
        return count;
    }

    // The corners of the second form are told from a box that lies dx and dy farther than the first one's.
    private static boolean haveSameEnds(Form one, int side, Form two, int otherSide, int dx, int dy) {
        int begin = one.pointAt(side, 0, 0);
        int end = one.pointAt(side + 1, 0, 0);
        int otherBegin = two.pointAt(otherSide, dx, dy);
        int otherEnd = two.pointAt(otherSide + 1, dx, dy);
        return begin == otherBegin && end == otherEnd || begin == otherEnd && end == otherBegin;
    }

    public int inner() {
        int sum = 0;
        for (int piece = 0; piece < PIECES; piece++) {
            if (!now.placing.isOff(piece) && silhouette.countSeams(piece, NONE, true) == 0
                    && silhouette.countSeams(piece, NONE, false) == 0) {
                sum += 1 << piece;
            }
        }
        return sum;
    }

    // ---- the silhouette

    public int loop(int loop, int what) throws NoSuchElementException, IllegalArgumentException {
        checkLoop(loop);
        checkWhat(what, 5);
        int first = outline.firstEdge[loop];
        switch (what) {
            case 0: return outline.edgeCount[loop];
            case 1: return outline.longs[loop];
            case 2: return outline.shorts[loop];
            case 3: return outline.isHole(loop) ? 1 : 0;
            case 4: return outline.corner[first] % POINT_ROW;
            default: return outline.corner[first] / POINT_ROW;
        }
    }

    public int edge(int loop, int edge, int what) throws NoSuchElementException, IllegalArgumentException {
        checkLoop(loop);
        if (edge < 0 || edge >= outline.edgeCount[loop]) {
            throw new NoSuchElementException("there is no such edge");
        }
        checkWhat(what, 4);
        int index = outline.firstEdge[loop] + edge;
        switch (what) {
            case 0: return outline.direction[index];
            case 1: return outline.borders[index];
            case 2: return outline.corner[index] % POINT_ROW;
            case 3: return outline.corner[index] / POINT_ROW;
            default: return outline.bend(loop, edge);
        }
    }

    public double perimeter() {
        int longs = 0;
        int shorts = 0;
        for (int loop = 0; loop < outline.loops; loop++) {
            longs += outline.longs[loop];
            shorts += outline.shorts[loop];
        }
        return (double) longs + (double) shorts * 0.7071067811865476;
    }

    public float fullness() {
        Region region = silhouette.region;
        int all = 4 * region.width * region.height;
        return all == 0 ? 0.0f : (float) region.quarters / (float) all;
    }

    public int looks() {
        if (silhouette.region.quarters == 0) {
            return 0;
        }
        lookTable.makeOf(silhouette.region);
        return lookTable.countDifferent();
    }

    public boolean isSimple() {
        return silhouette.parts == 1 && outline.countHoles() == 0 && !outline.isTouching;
    }

    // ---- the catalogue

    public int shape(int shape, int what) throws IndexOutOfBoundsException, IllegalArgumentException {
        checkShape(shape);
        checkWhat(what, 4);
        Region region = now.shapes[shape];
        switch (what) {
            case 0: return region.quarters;
            case 1: return region.left;
            case 2: return region.top;
            case 3: return region.width;
            default: return region.height;
        }
    }

    public boolean hasQuarter(int shape, int quarter) throws IndexOutOfBoundsException {
        checkShape(shape);
        return now.shapes[shape].contains(quarter);
    }

    public int alike(int shape) throws IndexOutOfBoundsException {
        checkShape(shape);
        if (now.shapes[shape].hasSameQuarters(silhouette.region)) {
            return 1;
        }
        lookTable.makeOf(silhouette.region);
        int look = lookTable.firstLike(now.shapes[shape]);
        if (look == NONE) {
            return 0;
        }
        if (look == 0) {
            return 2;
        }
        return look < TURNS ? 3 : 4;
    }

    public int find() {
        lookTable.makeOf(silhouette.region);
        for (int shape = 0; shape < now.shapeCount; shape++) {
            if (lookTable.firstLike(now.shapes[shape]) != NONE) {
                return shape;
            }
        }
        return NONE;
    }

    public int kinds() {
        int count = 0;
        for (int shape = 0; shape < now.shapeCount; shape++) {
            if (isFirstOfKind(shape)) {
                count++;
            }
        }
        return count;
    }

    private boolean isFirstOfKind(int shape) {
        lookTable.makeOf(now.shapes[shape]);
        for (int earlier = 0; earlier < shape; earlier++) {
            if (lookTable.firstLike(now.shapes[earlier]) != NONE) {
                return false;
            }
        }
        return true;
    }

    public int missing(int shape) throws IndexOutOfBoundsException {
        checkShape(shape);
        return now.shapes[shape].countDifferent(silhouette.region);
    }

    public int ways(int shape) throws IndexOutOfBoundsException {
        checkShape(shape);
        filler.fill(forms, now.shapes[shape], MOST_WAYS);
        return filler.found;
    }

    public int firstWay(int shape, int piece, int what)
            throws IndexOutOfBoundsException, IllegalArgumentException {
        checkShape(shape);
        checkPiece(piece);
        checkWhat(what, 3);
        filler.fill(forms, now.shapes[shape], 1);
        return filler.firstWay.tell(piece, what);
    }

    // ---- changes

    public int place(int piece, int x, int y, int turn, boolean flip)
            throws IndexOutOfBoundsException, IllegalArgumentException {
        checkPiece(piece);
        checkTurn(turn);
        int why = tryPlace(piece, x, y, formOf(turn, flip));
        return why == 0 ? silhouette.region.quarters : -why;
    }

    /** Places a piece, if nothing hinders it. Returns what whyNot() returned before. */
    private int tryPlace(int piece, int x, int y, int form) {
        int why = now.hindrance(forms, piece, x, y, form);
        if (why == 0) {
            remember();
            now.placing.put(piece, x, y, form);
            refresh();
        }
        return why;
    }

    public boolean takeOff(int piece) throws IndexOutOfBoundsException {
        checkPiece(piece);
        boolean wasPlaced = !now.placing.isOff(piece);
        remember();
        now.placing.drop(piece);
        refresh();
        return wasPlaced;
    }

    public int turn(int piece) throws IndexOutOfBoundsException {
        checkPiece(piece);
        if (now.placing.isOff(piece)) {
            return NONE;
        }
        int form = (now.placing.form[piece] + 2) % FORMS;
        int why = tryPlace(piece, now.placing.x[piece], now.placing.y[piece], form);
        return why == 0 ? form / 2 : NONE;
    }

    public int flip(int piece) throws IndexOutOfBoundsException {
        checkPiece(piece);
        if (now.placing.isOff(piece)) {
            return NONE;
        }
        int form = now.placing.form[piece] ^ 1;
        int why = tryPlace(piece, now.placing.x[piece], now.placing.y[piece], form);
        return why == 0 ? form % 2 : NONE;
    }

    public boolean shift(int dx, int dy) {
        Placing placing = now.placing;
        for (int piece = 0; piece < PIECES; piece++) {
            if (!placing.isOff(piece) && !canShift(piece, dx, dy)) {
                return false;
            }
        }
        remember();
        for (int piece = 0; piece < PIECES; piece++) {
            if (!placing.isOff(piece)) {
                placing.put(piece, placing.x[piece] + dx, placing.y[piece] + dy, placing.form[piece]);
            }
        }
        refresh();
        return true;
    }

    // The box's room is compared with dx and dy, as their sum with a place could wrap around.
    private boolean canShift(int piece, int dx, int dy) {
        int x = now.placing.x[piece];
        int y = now.placing.y[piece];
        Region region = formAt(forms, piece, now.placing.form[piece]).region;
        return dx >= -x && dx <= now.width - region.width - x
                && dy >= -y && dy <= now.height - region.height - y;
    }

    public int keep() {
        if (now.shapeCount >= MOST_SHAPES || silhouette.region.quarters == 0) {
            return NONE;
        }
        remember();
        now.shapes[now.shapeCount].copy(silhouette.region);
        now.shapeCount++;
        return now.shapeCount - 1;
    }

    public int remove(int shape) throws IndexOutOfBoundsException {
        checkShape(shape);
        remember();
        now.dropShape(shape);
        return now.shapeCount;
    }

    public boolean solve(int shape) throws IndexOutOfBoundsException {
        checkShape(shape);
        filler.fill(forms, now.shapes[shape], 1);
        if (filler.found == 0) {
            return false;
        }
        remember();
        now.placing.copy(filler.firstWay);
        refresh();
        return true;
    }

    // ---- undo, snapshots

    public int undo() {
        if (pastCount <= 0) {
            return NONE;
        }
        pastCount--;
        now.copy(past[pastCount]);
        refresh();
        return pastCount;
    }

    public boolean saveSnapshot(int slot) throws IllegalArgumentException {
        checkSlot(slot);
        boolean wasSaved = isSaved[slot];
        slots[slot].copy(now);
        isSaved[slot] = true;
        return wasSaved;
    }

    public int restoreSnapshot(int slot) throws IllegalArgumentException, IllegalStateException {
        checkSlot(slot);
        if (!isSaved[slot]) {
            throw new IllegalStateException("the slot is empty");
        }
        now.copy(slots[slot]);
        pastCount = 0;
        refresh();
        return now.placing.countPlaced();
    }

    public long checksum() {
        long sum = 0L;
        for (int what = 0; what <= 8; what++) {
            sum = 31L * sum + size(what);
        }
        for (int piece = 0; piece < PIECES; piece++) {
            for (int what = 0; what <= 3; what++) {
                sum = 31L * sum + piece(piece, what);
            }
        }
        for (int y = 0; y < now.height; y++) {
            for (int bit = 0; bit < 4 * now.width; bit++) {
                sum = 31L * sum + pieceAt(ROW * y + bit);
            }
        }
        for (int loop = 0; loop < outline.loops; loop++) {
            for (int what = 0; what <= 5; what++) {
                sum = 31L * sum + loop(loop, what);
            }
        }
        for (int shape = 0; shape < now.shapeCount; shape++) {
            for (int what = 0; what <= 4; what++) {
                sum = 31L * sum + shape(shape, what);
            }
        }
        return sum;
    }

    /** Keeps the state for undo(); each change calls it before it alters anything. */
    private void remember() {
        if (pastCount >= MOST_CHANGES) {
            State oldest = past[0];
            for (int i = 1; i < MOST_CHANGES; i++) {
                past[i - 1] = past[i];
            }
            past[MOST_CHANGES - 1] = oldest;
            pastCount = MOST_CHANGES - 1;
        }
        past[pastCount].copy(now);
        pastCount++;
    }

    /** Makes the silhouette and its outline anew, whenever the placing of the pieces may have changed. */
    private void refresh() {
        silhouette.make(forms, now.placing);
        silhouette.countParts();
        outline.make(silhouette);
    }

    // ---- checks of arguments

    private static void checkWhat(int what, int most) {
        if (what < 0 || what > most) {
            throw new IllegalArgumentException("what is out of range");
        }
    }

    private static void checkTurn(int turn) {
        if (turn < 0 || turn >= TURNS) {
            throw new IllegalArgumentException("turn is out of range");
        }
    }

    private static void checkSlot(int slot) {
        if (slot < 0 || slot >= SLOTS) {
            throw new IllegalArgumentException("slot is out of range");
        }
    }

    private static void checkPiece(int piece) {
        if (piece < 0 || piece >= PIECES) {
            throw new IndexOutOfBoundsException("there is no such piece");
        }
    }

    private void checkShape(int shape) {
        if (shape < 0 || shape >= now.shapeCount) {
            throw new IndexOutOfBoundsException("there is no such shape");
        }
    }

    private void checkLoop(int loop) {
        if (loop < 0 || loop >= outline.loops) {
            throw new NoSuchElementException("there is no such loop");
        }
    }

    // ---- forms, points and quarters

    private static int formOf(int turn, boolean isFlipped) {
        return 2 * turn + (isFlipped ? 1 : 0);
    }

    private static Form formAt(Form[] forms, int piece, int form) {
        int index = piece * FORMS + form;
        return index >= 0 && index < forms.length ? forms[index] : forms[0];
    }

    /**
     * Returns the quarter at the other side of a quarter's side; NONE if it lies beyond the widest board.
     * Side 0 is the long one; 1 and 2 follow it as one walks with the quarter at the right hand.
     */
    private static int neighbour(int quarter, int side) {
        int kind = quarter % 4;
        if (side != 0) {
            return quarter - kind + (side == 1 ? kind + 1 : kind + 3) % 4;
        }
        int outward = (2 * kind + 6) % 8;
        int x = quarter % ROW / 4 + DX[outward];
        int y = quarter / ROW + DY[outward];
        if (x < 0 || x >= SIDE || y < 0 || y >= SIDE) {
            return NONE;
        }
        return ROW * y + 4 * x + (kind + 2) % 4;
    }

    /** What the bytes of a text tell. */
    private enum Token {
        END("", NONE), INVALID("", NONE), NUMBER("", NONE), SEMICOLON("", NONE),
        BOARD("board", NONE), PIECE("piece", NONE), AT("at", NONE), TURN("turn", NONE),
        FLIP("flip", NONE), SHAPE("shape", NONE),
        EAST("e", 0), SOUTH_EAST("se", 1), SOUTH("s", 2), SOUTH_WEST("sw", 3),
        WEST("w", 4), NORTH_WEST("nw", 5), NORTH("n", 6), NORTH_EAST("ne", 7);

        final String text;
        final int direction;

        Token(String text, int direction) {
            this.text = text;
            this.direction = direction;
        }
    }

    /** A set of quarters: the quarter k of the cell x is the bit 4 * x + k of its row. */
    private static final class Region {
        final long[] rows = new long[SIDE];
        int quarters;
        int left;
        int top;
        int width;
        int height;

        void clear() {
            Arrays.fill(rows, 0L);
            measure();
        }

        void copy(Region other) {
            System.arraycopy(other.rows, 0, rows, 0, SIDE);
            quarters = other.quarters;
            left = other.left;
            top = other.top;
            width = other.width;
            height = other.height;
        }

        /** Counts the quarters and finds their least box; whoever alters the rows calls it behind that. */
        void measure() {
            quarters = 0;
            top = 0;
            height = 0;
            long all = 0L;
            for (int y = 0; y < SIDE; y++) {
                if (rows[y] != 0L) {
                    top = quarters == 0 ? y : top;
                    height = y + 1 - top;
                    quarters += Long.bitCount(rows[y]);
                    all |= rows[y];
                }
            }
            measureWidth(all);
        }

        private void measureWidth(long all) {
            left = 0;
            width = 0;
            for (int x = 0; x < SIDE; x++) {
                if ((all >>> 4 * x & 15L) != 0L) {
                    left = width == 0 ? x : left;
                    width = x + 1 - left;
                }
            }
        }

        long rowAt(int y) {
            return y >= 0 && y < SIDE ? rows[y] : 0L;
        }

        boolean contains(int quarter) {
            return quarter >= 0 && quarter < QUARTERS && (rows[quarter / ROW] >>> quarter % ROW & 1L) != 0L;
        }

        boolean hasSameQuarters(Region other) {
            return countDifferent(other) == 0;
        }

        int countDifferent(Region other) {
            int count = 0;
            for (int y = 0; y < SIDE; y++) {
                count += Long.bitCount(rows[y] ^ other.rows[y]);
            }
            return count;
        }

        boolean isAlikeByShifting(Region other) {
            if (quarters != other.quarters || width != other.width || height != other.height) {
                return false;
            }
            for (int y = 0; y < height; y++) {
                if (rowAt(top + y) >>> 4 * left != other.rowAt(other.top + y) >>> 4 * other.left) {
                    return false;
                }
            }
            return true;
        }

        /**
         * Follows a side of an outline and changes all that lies at the left of it: in the end those quarters
         * are in the set from which a line to the right crosses an odd number of sides.
         */
        void cross(int x, int y, int toX, int toY) {
            int dx = Integer.signum(toX - x);
            int dy = Integer.signum(toY - y);
            int steps = dy == 0 ? 0 : Math.abs(toY - y);
            for (int step = 0; step < steps; step++) {
                int column = x + dx * step + Math.min(dx, 0);
                int row = y + dy * step + Math.min(dy, 0);
                // A diagonal leaves two quarters of its own cell at its left.
                long cell = dx == 0 ? 0L : dx == dy ? 12L : 9L;
                if (row >= 0 && row < SIDE && column >= 0 && column <= SIDE) {
                    rows[row] ^= (1L << 4 * column) - 1L | cell << 4 * column;
                }
            }
        }

        /** Adds all quarters of another set, shifted; or takes them away, if they are in this set. */
        void exchange(Region other, int x, int y) {
            for (int i = 0; i < other.height; i++) {
                if (y + i >= 0 && y + i < SIDE) {
                    rows[y + i] ^= other.rowAt(i) << 4 * x;
                }
            }
        }

        boolean containsAll(Region other, int x, int y) {
            for (int i = 0; i < other.height; i++) {
                long row = other.rowAt(i) << 4 * x;
                if ((rowAt(y + i) & row) != row) {
                    return false;
                }
            }
            return true;
        }

        int firstQuarter() {
            for (int y = 0; y < SIDE; y++) {
                long row = rows[y];
                if (row != 0L) {
                    return ROW * y + Long.bitCount((row & -row) - 1L);
                }
            }
            return NONE;
        }

        /** Puts this set into another one, with its least box in the upper left corner. */
        void moveInto(Region target) {
            for (int y = 0; y < SIDE; y++) {
                target.rows[y] = rowAt(top + y) >>> 4 * left;
            }
            target.measure();
        }

        /** As moveInto(), turned once in its least box. */
        void turnInto(Region target) {
            Arrays.fill(target.rows, 0L);
            for (int y = 0; y < height; y++) {
                for (int x = 0; x < width && x < SIDE; x++) {
                    long cell = rowAt(top + y) >>> 4 * (left + x) & 15L;
                    target.rows[x] |= (cell << 1 & 15L | cell >>> 3) << 4 * (height - 1 - y);
                }
            }
            target.measure();
        }

        /** As moveInto(), flipped in its least box. */
        void flipInto(Region target) {
            Arrays.fill(target.rows, 0L);
            for (int y = 0; y < height && y < SIDE; y++) {
                for (int x = 0; x < width; x++) {
                    long cell = rowAt(top + y) >>> 4 * (left + x) & 15L;
                    target.rows[y] |= (cell & 5L | cell << 2 & 8L | cell >>> 2 & 2L) << 4 * (width - 1 - x);
                }
            }
            target.measure();
        }
    }

    /** A piece with a turn, flipped or not, in its box. */
    private static final class Form {
        final int corners;
        final int[] cornerX = new int[MOST_CORNERS];
        final int[] cornerY = new int[MOST_CORNERS];
        final Region region = new Region();
        final int firstQuarter;
        // No earlier form of the piece covers the same quarters.
        boolean isNew = true;

        Form(int piece, int form) {
            corners = CORNER_COUNT[piece];
            for (int corner = 0; corner < MOST_CORNERS; corner++) {
                int index = 2 * (MOST_CORNERS * piece + corner);
                setCorner(corner, CORNERS[index], CORNERS[index + 1], piece, form);
            }
            for (int side = 0; side < corners; side++) {
                int next = side + 1 < corners ? side + 1 : 0;
                region.cross(cornerX[side], cornerY[side], cornerX[next], cornerY[next]);
            }
            region.measure();
            firstQuarter = region.firstQuarter();
        }

        private void setCorner(int corner, int x, int y, int piece, int form) {
            int width = BOX_WIDTH[piece];
            int height = BOX_HEIGHT[piece];
            int a = form % 2 == 1 ? width - x : x;
            int b = y;
            for (int turn = 0; turn < form / 2; turn++) {
                int turned = height - b;
                b = a;
                a = turned;
                int side = width;
                width = height;
                height = side;
            }
            cornerX[corner] = a;
            cornerY[corner] = b;
        }

        /** Returns a number that is another one for each point; the corner behind the last one is the first one. */
        int pointAt(int corner, int dx, int dy) {
            int index = corner >= 0 && corner < corners ? corner : 0;
            return 100 * (cornerY[index] + dy) + cornerX[index] + dx;
        }
    }

    /** Where the pieces lie. */
    private static final class Placing {
        final int[] x = new int[PIECES];
        final int[] y = new int[PIECES];
        final int[] form = new int[PIECES];

        Placing() {
            clear();
        }

        void clear() {
            Arrays.fill(form, NONE);
        }

        void copy(Placing other) {
            System.arraycopy(other.x, 0, x, 0, PIECES);
            System.arraycopy(other.y, 0, y, 0, PIECES);
            System.arraycopy(other.form, 0, form, 0, PIECES);
        }

        boolean isOff(int piece) {
            return form[piece] == NONE;
        }

        void put(int piece, int newX, int newY, int newForm) {
            x[piece] = newX;
            y[piece] = newY;
            form[piece] = newForm;
        }

        void drop(int piece) {
            form[piece] = NONE;
        }

        int countPlaced() {
            int count = 0;
            for (int piece = 0; piece < PIECES; piece++) {
                if (!isOff(piece)) {
                    count++;
                }
            }
            return count;
        }

        int tell(int piece, int what) {
            if (isOff(piece)) {
                return NONE;
            }
            switch (what) {
                case 0: return x[piece];
                case 1: return y[piece];
                case 2: return form[piece] / 2;
                default: return form[piece] % 2;
            }
        }
    }

    /** What changes, undo and snapshots alter: the placing and the catalogue, on a board of some size. */
    private static final class State {
        int width = 8;
        int height = 8;
        final Placing placing = new Placing();
        final Region[] shapes = new Region[MOST_SHAPES];
        int shapeCount;

        State() {
            for (int shape = 0; shape < MOST_SHAPES; shape++) {
                shapes[shape] = new Region();
            }
        }

        void copy(State other) {
            width = other.width;
            height = other.height;
            placing.copy(other.placing);
            shapeCount = other.shapeCount;
            for (int shape = 0; shape < shapeCount && shape < MOST_SHAPES; shape++) {
                shapes[shape].copy(other.shapes[shape]);
            }
        }

        void dropShape(int shape) {
            for (int next = shape + 1; next < shapeCount && next < MOST_SHAPES; next++) {
                shapes[next - 1].copy(shapes[next]);
            }
            shapeCount--;
        }

        /** Returns why a piece cannot be placed so, as whyNot(). */
        int hindrance(Form[] forms, int piece, int x, int y, int form) {
            Region region = formAt(forms, piece, form).region;
            if (x < 0 || y < 0 || x > width - region.width || y > height - region.height) {
                return 1;
            }
            for (int other = 0; other < PIECES; other++) {
                if (other != piece && !placing.isOff(other)) {
                    Region placed = formAt(forms, other, placing.form[other]).region;
                    if (overlap(region, x, y, placed, placing.x[other], placing.y[other])) {
                        return 2 + other;
                    }
                }
            }
            return 0;
        }

        private static boolean overlap(Region one, int x, int y, Region two, int otherX, int otherY) {
            for (int i = 0; i < one.height; i++) {
                if ((one.rowAt(i) << 4 * x & two.rowAt(y + i - otherY) << 4 * otherX) != 0L) {
                    return true;
                }
            }
            return false;
        }
    }

    /** What the placed pieces cover together. */
    private static final class Silhouette {
        final Region region = new Region();
        final int[] owner = new int[QUARTERS];
        int parts;
        private final boolean[] isCounted = new boolean[QUARTERS];
        private final int[] waiting = new int[QUARTERS];
        private int waitingCount;

        Silhouette() {
            Arrays.fill(owner, NONE);
        }

        void make(Form[] forms, Placing placing) {
            Arrays.fill(owner, NONE);
            Arrays.fill(region.rows, 0L);
            for (int piece = 0; piece < PIECES; piece++) {
                if (!placing.isOff(piece)) {
                    Region covered = formAt(forms, piece, placing.form[piece]).region;
                    region.exchange(covered, placing.x[piece], placing.y[piece]);
                    own(piece, covered, ROW * placing.y[piece] + 4 * placing.x[piece]);
                }
            }
            region.measure();
        }

        private void own(int piece, Region covered, int first) {
            for (int y = 0; y < covered.height; y++) {
                for (int bit = 0; bit < 4 * covered.width; bit++) {
                    int quarter = first + ROW * y + bit;
                    if (covered.contains(ROW * y + bit) && quarter >= 0 && quarter < QUARTERS) {
                        owner[quarter] = piece;
                    }
                }
            }
        }

        int ownerAt(int quarter) {
            return quarter >= 0 && quarter < QUARTERS ? owner[quarter] : NONE;
        }

        /** Counts the sides of a piece's quarters that have a quarter of another piece, or NONE, behind them. */
        int countSeams(int piece, int other, boolean isLong) {
            int count = 0;
            for (int quarter = 0; quarter < QUARTERS; quarter++) {
                if (owner[quarter] == piece) {
                    for (int side = isLong ? 0 : 1; side <= (isLong ? 0 : 2); side++) {
                        if (ownerAt(neighbour(quarter, side)) == other) {
                            count++;
                        }
                    }
                }
            }
            return count;
        }

        void countParts() {
            parts = 0;
            waitingCount = 0;
            for (int quarter = 0; quarter < QUARTERS; quarter++) {
                isCounted[quarter] = false;
            }
            for (int quarter = 0; quarter < QUARTERS; quarter++) {
                if (owner[quarter] != NONE && !isCounted[quarter]) {
                    parts++;
                    countPart(quarter);
                }
            }
        }

        private void countPart(int first) {
            visit(first);
            for (int step = 0; step < QUARTERS && waitingCount > 0; step++) {
                waitingCount--;
                int quarter = waiting[waitingCount];
                for (int side = 0; side <= 2; side++) {
                    visit(neighbour(quarter, side));
                }
            }
        }

        private void visit(int quarter) {
            if (ownerAt(quarter) != NONE && !isCounted[quarter] && waitingCount < QUARTERS) {
                isCounted[quarter] = true;
                waiting[waitingCount] = quarter;
                waitingCount++;
            }
        }
    }

    /** The loops of a silhouette with their edges; the edges of all loops stand one behind the other. */
    private static final class Outline {
        // For each point one bit for each direction of a border that begins there.
        private final int[] starts = new int[POINTS];
        private final int[] walked = new int[POINTS];
        final int[] direction = new int[MOST_BORDERS];
        final int[] borders = new int[MOST_BORDERS];
        final int[] corner = new int[MOST_BORDERS];
        final int[] firstEdge = new int[MOST_BORDERS];
        final int[] edgeCount = new int[MOST_BORDERS];
        final int[] longs = new int[MOST_BORDERS];
        final int[] shorts = new int[MOST_BORDERS];
        private final int[] area = new int[MOST_BORDERS];
        int loops;
        int edges;
        boolean isTouching;

        void make(Silhouette silhouette) {
            Arrays.fill(starts, 0);
            Arrays.fill(walked, 0);
            loops = 0;
            edges = 0;
            isTouching = false;
            for (int quarter = 0; quarter < QUARTERS; quarter++) {
                if (silhouette.owner[quarter] != NONE) {
                    for (int side = 0; side <= 2; side++) {
                        if (silhouette.ownerAt(neighbour(quarter, side)) == NONE) {
                            addStart(quarter, side);
                        }
                    }
                }
            }
            walkAll();
        }

        private void addStart(int quarter, int side) {
            int kind = quarter % 4;
            int x = 2 * (quarter % ROW / 4);
            int y = 2 * (quarter / ROW);
            if (side == 2) {
                addStartAt(x + 1, y + 1, (2 * kind + 5) % 8);
            } else {
                int corner = (kind + side) % 4;
                int cornerX = corner == 1 || corner == 2 ? x + 2 : x;
                int cornerY = corner >= 2 ? y + 2 : y;
                addStartAt(cornerX, cornerY, (2 * kind + 3 * side) % 8);
            }
        }

        private void addStartAt(int x, int y, int way) {
            int point = POINT_ROW * y + x;
            if (point >= 0 && point < POINTS) {
                isTouching = isTouching || starts[point] != 0;
                starts[point] |= 1 << way;
            }
        }

        // Points and directions are gone through in the order of first borders: so the loops come in their order.
        private void walkAll() {
            for (int point = 0; point < POINTS; point++) {
                for (int way = 0; way < 8 && starts[point] != 0; way++) {
                    int bit = 1 << way;
                    if ((starts[point] & bit) != 0 && (walked[point] & bit) == 0 && loops < MOST_BORDERS) {
                        walk(point, way);
                    }
                }
            }
        }

        private void walk(int first, int firstWay) {
            firstEdge[loops] = edges;
            edgeCount[loops] = 0;
            longs[loops] = 0;
            shorts[loops] = 0;
            area[loops] = 0;
            int point = first;
            int way = firstWay;
            for (int step = 0; step < MOST_BORDERS; step++) {
                int end = endOf(point, way);
                addBorder(point, way, end);
                way = nextWay(end, way);
                point = end;
                if (point == first && way == firstWay) {
                    break;
                }
            }
            loops++;
        }

        private void addBorder(int point, int way, int end) {
            if (point >= 0 && point < POINTS) {
                walked[point] |= 1 << way;
            }
            area[loops] += point % POINT_ROW * (end / POINT_ROW) - end % POINT_ROW * (point / POINT_ROW);
            if (way % 2 == 0) {
                longs[loops]++;
            } else {
                shorts[loops]++;
            }
            int last = edges - 1;
            if (edgeCount[loops] > 0 && last >= 0 && direction[last] == way) {
                borders[last]++;
            } else if (edges < MOST_BORDERS) {
                direction[edges] = way;
                borders[edges] = 1;
                corner[edges] = point;
                edges++;
                edgeCount[loops]++;
            }
        }

        private static int endOf(int point, int way) {
            int length = way % 2 == 0 ? 2 : 1;
            return point + length * (POINT_ROW * DY[way & 7] + DX[way & 7]);
        }

        private int nextWay(int point, int way) {
            for (int rank = 7; rank >= 0; rank--) {
                int next = rank + way - 3 & 7;
                if (point >= 0 && point < POINTS && (starts[point] >> next & 1) != 0) {
                    return next;
                }
            }
            return way;
        }

        boolean isHole(int loop) {
            return area[loop] < 0;
        }

        int countHoles() {
            int count = 0;
            for (int loop = 0; loop < loops; loop++) {
                if (isHole(loop)) {
                    count++;
                }
            }
            return count;
        }

        int bend(int loop, int edge) {
            int index = firstEdge[loop] + edge;
            int last = firstEdge[loop] + (edge == 0 ? edgeCount[loop] : edge) - 1;
            return (direction[index] - direction[last] + 3 & 7) - 3;
        }
    }

    /** The eight looks of a set of quarters: not flipped with the turns 0 to 3, then flipped. */
    private static final class Looks {
        private final Region[] looks = new Region[LOOKS];

        Looks() {
            for (int look = 0; look < LOOKS; look++) {
                looks[look] = new Region();
            }
        }

        void makeOf(Region region) {
            region.moveInto(looks[0]);
            region.flipInto(looks[TURNS]);
            for (int turn = 1; turn < TURNS; turn++) {
                looks[turn - 1].turnInto(looks[turn]);
                looks[TURNS + turn - 1].turnInto(looks[TURNS + turn]);
            }
        }

        int firstLike(Region region) {
            for (int look = 0; look < LOOKS; look++) {
                if (looks[look].isAlikeByShifting(region)) {
                    return look;
                }
            }
            return NONE;
        }

        int countDifferent() {
            int count = 0;
            for (int look = 0; look < LOOKS; look++) {
                if (firstLike(looks[look]) == look) {
                    count++;
                }
            }
            return count;
        }
    }

    /** Finds the ways to fill a shape; what it found for the latest shape it does not search again. */
    private static final class Filler {
        private final Region known = new Region();
        private final Region open = new Region();
        private final Placing tried = new Placing();
        private int most;
        final Placing firstWay = new Placing();
        int found;

        /** Finds the first way and counts the ways, up to a limit. */
        void fill(Form[] forms, Region shape, int limit) {
            if (most >= limit && known.hasSameQuarters(shape)) {
                return;
            }
            known.copy(shape);
            open.copy(shape);
            tried.clear();
            firstWay.clear();
            most = limit;
            found = 0;
            if (shape.quarters == COVERED_BY_ALL) {
                search(this, forms, 0);
            }
        }

        private static void search(Filler filler, Form[] forms, int depth) {
            if (depth >= PIECES) {
                filler.takeWay();
                return;
            }
            int quarter = filler.open.firstQuarter();
            for (int piece = 0; piece < PIECES && quarter != NONE; piece++) {
                if (filler.isNext(piece)) {
                    searchWith(filler, forms, depth, piece, quarter);
                }
            }
        }

        // The first open quarter is the first one of the piece, too: each form has but one place there.
        private static void searchWith(Filler filler, Form[] forms, int depth, int piece, int quarter) {
            for (int form = 0; form < FORMS && filler.found < filler.most; form++) {
                Form candidate = formAt(forms, piece, form);
                int offset = quarter % ROW - candidate.firstQuarter;
                int x = offset / 4;
                int y = quarter / ROW;
                if (candidate.isNew && offset >= 0 && offset % 4 == 0
                        && filler.open.containsAll(candidate.region, x, y)) {
                    filler.open.exchange(candidate.region, x, y);
                    filler.tried.put(piece, x, y, form);
                    search(filler, forms, depth + 1);
                    filler.tried.drop(piece);
                    filler.open.exchange(candidate.region, x, y);
                }
            }
        }

        // Two pieces of one kind fill the same: the one with the greater number waits for the other one.
        private boolean isNext(int piece) {
            int twin = LOWER_TWIN[piece];
            return tried.isOff(piece) && (twin == NONE || !tried.isOff(twin));
        }

        private void takeWay() {
            if (found == 0) {
                firstWay.copy(tried);
            }
            found++;
        }
    }

    /** The input buffer, and the tokens of a text in it. */
    private static final class Tokens {
        private static final int SPACE = 0;
        private static final int LETTER = 1;
        private static final int DIGIT = 2;
        private static final int OTHER = 3;

        private final byte[] bytes = new byte[MOST_BYTES];
        int length;
        // There is room for a token a byte, and for the end.
        private final Token[] kinds = new Token[MOST_BYTES + 1];
        private final int[] starts = new int[MOST_BYTES + 1];
        private final int[] numbers = new int[MOST_BYTES + 1];
        private int current;

        Tokens() {
            for (int i = 0; i <= MOST_BYTES; i++) {
                kinds[i] = Token.END;
            }
        }

        void addBytes(int four) {
            for (int bits = 24; bits >= 0; bits -= 8) {
                if (length < MOST_BYTES) {
                    bytes[length] = (byte) (four >>> bits);
                    length++;
                }
            }
        }

        /** Divides the first bytes into tokens, and begins with the first of them. */
        void scan(int end) {
            int index = endOfRun(0, end, SPACE);
            int count = 0;
            while (index < end && count < MOST_BYTES) {
                index = endOfRun(scanToken(count, index, end), end, SPACE);
                count++;
            }
            kinds[count] = Token.END;
            starts[count] = end;
            current = 0;
        }

        /** Returns the index behind the token. */
        private int scanToken(int count, int start, int end) {
            int sort = sortAt(start);
            int next = sort == OTHER ? start + 1 : endOfRun(start, end, sort);
            starts[count] = start;
            if (sort == LETTER) {
                kinds[count] = findWord(start, next);
            } else if (sort == DIGIT) {
                kinds[count] = next - start > 2 ? Token.INVALID : Token.NUMBER;
                numbers[count] = next - start > 2 ? NONE : readDigits(start, next);
            } else {
                kinds[count] = byteAt(start) == ';' ? Token.SEMICOLON : Token.INVALID;
            }
            return next;
        }

        Token kind() {
            return kinds[current];
        }

        int number() {
            return numbers[current];
        }

        int start() {
            return starts[current];
        }

        int startBefore() {
            return current > 0 ? starts[current - 1] : 0;
        }

        void advance() {
            if (current < MOST_BYTES) {
                current++;
            }
        }

        private int byteAt(int index) {
            return index >= 0 && index < MOST_BYTES ? bytes[index] : 0;
        }

        private int sortAt(int index) {
            int value = byteAt(index);
            if (value == 32 || value == 10) {
                return SPACE;
            }
            if (value >= 'a' && value <= 'z') {
                return LETTER;
            }
            return value >= '0' && value <= '9' ? DIGIT : OTHER;
        }

        private int endOfRun(int from, int end, int sort) {
            int index = from;
            while (index < end && sortAt(index) == sort) {
                index++;
            }
            return index;
        }

        private int readDigits(int from, int end) {
            int value = 0;
            for (int index = from; index < end; index++) {
                value = 10 * value + byteAt(index) - '0';
            }
            return value;
        }

        private Token findWord(int from, int end) {
            for (int i = 0; i < TOKENS.length; i++) {
                if (isWord(TOKENS[i].text, from, end)) {
                    return TOKENS[i];
                }
            }
            return Token.INVALID;
        }

        private boolean isWord(String text, int from, int end) {
            if (text.length() != end - from) {
                return false;
            }
            for (int i = 0; i < text.length(); i++) {
                if (text.charAt(i) != byteAt(from + i)) {
                    return false;
                }
            }
            return true;
        }
    }

    /** Reads a text into a draft of a state. Behind the first error nothing is read any more. */
    private static final class Parser {
        final Tokens tokens = new Tokens();
        final State draft = new State();
        int code;
        int offset;
        // The corner to which the edges of a shape have led.
        private int x;
        private int y;

        void readText(Form[] forms, int bytes) {
            code = 0;
            draft.placing.clear();
            draft.shapeCount = 0;
            tokens.scan(bytes);
            skip(Token.BOARD);
            draft.width = readNumber(LEAST_SIDE, SIDE);
            draft.height = readNumber(LEAST_SIDE, SIDE);
            skip(Token.SEMICOLON);
            for (int i = 0; i < MOST_BYTES && code == 0 && tokens.kind() != Token.END; i++) {
                if (tokens.kind() == Token.PIECE) {
                    readPiece(forms);
                } else {
                    readShape();
                }
            }
        }

        private void fail(int newCode, int newOffset) {
            if (code == 0) {
                code = newCode;
                offset = newOffset;
            }
        }

        private void skip(Token wanted) {
            if (tokens.kind() != wanted) {
                fail(1, tokens.start());
            }
            if (code == 0) {
                tokens.advance();
            }
        }

        /** Returns NONE behind an error. */
        private int readNumber(int least, int most) {
            if (tokens.kind() != Token.NUMBER) {
                fail(1, tokens.start());
            } else if (tokens.number() < least || tokens.number() > most) {
                fail(2, tokens.start());
            }
            if (code != 0) {
                return NONE;
            }
            int number = tokens.number();
            tokens.advance();
            return number;
        }

        private void readPiece(Form[] forms) {
            skip(Token.PIECE);
            int piece = readNumber(0, PIECES - 1);
            if (piece != NONE && !draft.placing.isOff(piece)) {
                fail(3, tokens.startBefore());
            }
            skip(Token.AT);
            int pieceX = readNumber(0, draft.width - 1);
            int pieceY = readNumber(0, draft.height - 1);
            skip(Token.TURN);
            int turn = readNumber(0, TURNS - 1);
            boolean isFlipped = tokens.kind() == Token.FLIP;
            if (isFlipped) {
                skip(Token.FLIP);
            }
            skip(Token.SEMICOLON);
            if (code == 0) {
                int form = formOf(turn, isFlipped);
                if (draft.hindrance(forms, piece, pieceX, pieceY, form) == 0) {
                    draft.placing.put(piece, pieceX, pieceY, form);
                } else {
                    fail(3, tokens.startBefore());
                }
            }
        }

        private void readShape() {
            if (tokens.kind() == Token.SHAPE && draft.shapeCount >= MOST_SHAPES) {
                fail(4, tokens.start());
            }
            skip(Token.SHAPE);
            x = readNumber(0, draft.width);
            y = readNumber(0, draft.height);
            if (code == 0 && draft.shapeCount < MOST_SHAPES) {
                readOutline(draft.shapes[draft.shapeCount]);
            }
        }

        private void readOutline(Region region) {
            int firstX = x;
            int firstY = y;
            region.clear();
            readEdge(region);
            for (int i = 0; i < MOST_BYTES && code == 0 && tokens.kind() != Token.SEMICOLON; i++) {
                readEdge(region);
            }
            skip(Token.SEMICOLON);
            region.measure();
            if (code == 0) {
                if (x != firstX || y != firstY || region.quarters == 0) {
                    fail(3, tokens.startBefore());
                } else {
                    draft.shapeCount++;
                }
            }
        }

        private void readEdge(Region region) {
            int direction = tokens.kind().direction;
            if (direction == NONE) {
                fail(1, tokens.start());
                return;
            }
            tokens.advance();
            int length = readNumber(1, MOST_LENGTH);
            int toX = x + DX[direction & 7] * length;
            int toY = y + DY[direction & 7] * length;
            if (toX < 0 || toX > draft.width || toY < 0 || toY > draft.height) {
                fail(2, tokens.startBefore());
            }
            if (code == 0) {
                region.cross(x, y, toX, toY);
                x = toX;
                y = toY;
            }
        }
    }
}
