/** All that can be asked of an object without changing it, as one text: two objects are compared by it. */
final class Whole {
    private Whole() { }

    static String of(TangramBoard b) {
        return b.size(9) + " " + b.size(10) + " " + held(b);
    }

    /** All but the buffer and the number of changes: what undo and snapshots bring back. */
    static String held(TangramBoard b) {
        StringBuilder text = new StringBuilder();
        for (int what = 0; what <= 8; what++) {
            text.append(b.size(what)).append(' ');
        }
        pieces(b, text);
        silhouette(b, text);
        catalogue(b, text);
        return text.append(b.checksum()).toString();
    }

    private static void pieces(TangramBoard b, StringBuilder text) {
        for (int piece = 0; piece < 7; piece++) {
            for (int what = 0; what <= 7; what++) {
                text.append(b.piece(piece, what)).append(' ');
            }
            text.append(b.places(piece)).append(' ');
            for (int other = 0; other < 7; other++) {
                text.append(b.seams(piece, other, true)).append(' ').append(b.seams(piece, other, false)).append(' ');
            }
        }
        for (int quarter = 0; quarter < 576; quarter++) {
            text.append(b.pieceAt(quarter)).append(' ');
        }
        text.append(b.matches()).append(' ').append(b.inner()).append('\n');
    }

    private static void silhouette(TangramBoard b, StringBuilder text) {
        for (int loop = 0; loop < b.size(5); loop++) {
            for (int what = 0; what <= 5; what++) {
                text.append(b.loop(loop, what)).append(' ');
            }
            for (int edge = 0; edge < b.loop(loop, 0); edge++) {
                for (int what = 0; what <= 4; what++) {
                    text.append(b.edge(loop, edge, what)).append(' ');
                }
            }
        }
        text.append(b.perimeter()).append(' ').append(b.fullness()).append(' ').append(b.looks()).append(' ');
        text.append(b.isSimple()).append('\n');
    }

    private static void catalogue(TangramBoard b, StringBuilder text) {
        text.append(b.find()).append(' ').append(b.kinds()).append(' ');
        for (int shape = 0; shape < b.size(8); shape++) {
            for (int what = 0; what <= 4; what++) {
                text.append(b.shape(shape, what)).append(' ');
            }
            for (int quarter = 0; quarter < 576; quarter++) {
                text.append(b.hasQuarter(shape, quarter) ? '1' : '0');
            }
            text.append(' ').append(b.alike(shape)).append(' ').append(b.missing(shape)).append(' ');
            text.append(b.ways(shape)).append(' ');
            for (int piece = 0; piece < 7; piece++) {
                for (int what = 0; what <= 3; what++) {
                    text.append(b.firstWay(shape, piece, what)).append(' ');
                }
            }
        }
    }
}
