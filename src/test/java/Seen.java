/** All that can be asked of an object without changing it, as a text, in some hundred calls. */
final class Seen {
    private static final int MOST_OUT = 40;

    private Seen() {
    }

    static String of(SortedBlocks x) {
        return "given " + x.given() + butGiven(x);
    }

    static String butGiven(SortedBlocks x) {
        return " at " + x.at() + out(x) + told(x);
    }

    /** What unpack leaves if it answers a fault or throws. */
    static String butAt(SortedBlocks x) {
        return "given " + x.given() + out(x) + told(x);
    }

    private static String out(SortedBlocks x) {
        int size = x.size();
        int step = size / MOST_OUT + 1;
        StringBuilder text = new StringBuilder(" size ").append(size).append(" out");
        for (int i = 0; i < size; i += step) {
            text.append(' ').append(x.out(i));
        }
        return text.toString();
    }

    static String told(SortedBlocks x) {
        StringBuilder text = new StringBuilder(" blocks ").append(x.blocks()).append(" block");
        for (int what = 0; what < 5; what++) {
            text.append(' ').append(x.block(what));
        }
        text.append(" column ").append(Due.column(x)).append(" symbols ").append(Due.symbols(x));
        int tables = x.block(3);
        for (int t = 0; t < tables; t++) {
            text.append(" lengths ").append(Due.lengths(x, t));
        }
        return text.append(" picks ").append(Due.picks(x)).toString();
    }
}
