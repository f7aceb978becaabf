import java.lang.management.ManagementFactory;

/** All calls of a run live in one room: a new object is small, and no call makes anything but an exception. */
public final class RoomTest {
    private static final com.sun.management.ThreadMXBean THREADS =
        (com.sun.management.ThreadMXBean) ManagementFactory.getThreadMXBean();

    private static long answers;

    public static void main(String[] args) {
        Checks checks = new Checks();
        calls(Texts.board("board 12 12; shape 0 0 e 4 s 4 w 4 n 4;"));
        long before = made();
        TangramBoard board = new TangramBoard();
        long room = made() - before;
        checks.due("bytes of a new object, below 200000", room < 200000 ? "below" : room, "below");
        board = Texts.board("board 12 12; shape 0 0 e 4 s 4 w 4 n 4; shape 0 0 e 12 s 12 w 12 n 12;");
        before = made();
        for (int i = 0; i < 10; i++) {
            calls(board);
        }
        room = made() - before;
        checks.due("bytes of all calls, below 20000", room < 20000 ? "below" : room, "below");
        checks.due("the calls answered something", answers != 0, true);
        checks.end();
    }

    private static long made() {
        return THREADS.getThreadAllocatedBytes(Thread.currentThread().getId());
    }

    private static void calls(TangramBoard b) {
        for (int piece = 0; piece < 7; piece++) {
            answers += b.place(piece, 3 * (piece % 3), 4 * (piece / 3), 0, false) + b.turn(piece) + b.flip(piece);
            answers += b.places(piece) + b.whyNot(piece, 0, 0, 1, true) + b.piece(piece, 7);
            answers += b.seams(piece, 0, true) + b.firstWay(0, piece, 0);
        }
        answers += b.keep() + b.kinds() + b.find() + b.looks() + b.matches() + b.inner() + b.checksum();
        answers += b.alike(0) + b.missing(0) + b.ways(0) + b.ways(1) + b.loop(0, 0) + b.edge(0, 0, 4);
        answers += (long) b.perimeter() + (long) b.fullness() + (b.isSimple() ? 1 : 0) + (b.solve(0) ? 1 : 0);
        answers += (b.saveSnapshot(0) ? 1 : 0) + b.restoreSnapshot(0) + (b.shift(1, 1) ? 1 : 0) + b.undo();
        answers += b.remove(b.size(8) - 1) + (b.takeOff(0) ? 1 : 0) + b.shape(0, 0) + (b.hasQuarter(0, 5) ? 1 : 0);
        answers += b.append(0x626f6172, 0x64203420, 0x343b2020, 0x20202020, 0x20202020) + b.parse(9);
    }
}
