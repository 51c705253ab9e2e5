import java.util.ArrayList;
import java.util.List;

/** Promise 6: LENGTHS, CODES and PICKING, as far as pack uses them. */
public final class Promise06PickingTest {
    public static void main(String[] args) {
        Due.runAll(Promise06PickingTest.class);
    }

    /** A rising row has a symbol for each of its bytes, and the END. */
    private static SortedBlocks withSymbols(int n) {
        SortedBlocks x = Due.afterPack(Text.rising(n - 1), 8);
        Due.same("symbols", x.block(2), n);
        return x;
    }

    private static void groups(int symbols, int groups, int tables) {
        SortedBlocks x = withSymbols(symbols);
        Due.same("groups of " + symbols + " symbols", Due.picks(x).size(), groups);
        Due.same("tables of " + symbols + " symbols", x.block(3), tables);
        Due.same("the last table of " + symbols + " symbols", x.length(tables - 1, 0) > 0, true);
        Due.same("no table more of " + symbols + " symbols", x.length(tables, 0), SortedBlocks.NONE);
    }

    static void groupsAreOf8() {
        groups(3, 1, 2);
        groups(7, 1, 2);
        groups(8, 1, 2);
        groups(9, 2, 2);
        groups(16, 2, 2);
        groups(17, 3, 2);
        groups(24, 3, 2);
        groups(25, 4, 2);
    }

    static void threeTablesIfThereAreMoreThan4Groups() {
        groups(31, 4, 2);
        groups(32, 4, 2);
        groups(33, 5, 3);
        groups(40, 5, 3);
        groups(41, 6, 3);
        groups(64, 8, 3);
        groups(65, 9, 3);
    }

    static void writtenNumberOfTablesAndGroups() {
        // the bytes 0 .. 63 are in four maps, which stand behind 70 bits and the first 16
        String bits = Model.bitsOf(Due.packed(Text.rising(64), 8));
        Due.same("three tables and nine groups", bits.substring(70 + 5 * 16, 70 + 5 * 16 + 9), "011" + "001001");
        bits = Model.bitsOf(Due.packed(List.of(7), 8));
        Due.same("two tables and one group", bits.substring(70 + 2 * 16, 70 + 2 * 16 + 9), "010" + "000001");
    }

    static void ofEqualWeightsTheOlderOnesAreJoinedFirst() {
        // the symbols A and END once each, and B not at all: all weights are 1
        SortedBlocks x = Due.afterPack(List.of(7), 1);
        // A and B are the oldest, so the END is joined last
        Due.same("table 0", Due.lengths(x, 0), List.of(2, 2, 1));
        Due.same("table 1", Due.lengths(x, 1), List.of(2, 2, 1));
    }

    /** A weight is 1 where the number is 0, so a table that no group picked has all weights 1. */
    static void lengthsOfATableThatNoGroupPicked() {
        // five symbols: 0 and 1 are one tree, 2 and 3 another, then 4 and the first, then all
        SortedBlocks x = Due.afterPack(Text.letters("banana"), 1);
        Due.same("table 1", Due.lengths(x, 1), List.of(3, 3, 2, 2, 2));
        // weights 1 1 1 3 1: 0 1 | 2 4 | both of them | and 3
        Due.same("table 0", Due.lengths(x, 0), List.of(3, 3, 3, 1, 3));
        Due.same("the group picks the lower of several", Due.picks(x), List.of(0));
    }

    /** The last group has one symbol only, the END. */
    static void aLastGroupThatIsShorter() {
        // the column of these is h, a .. g: symbols 9, 2, 3 .. 8, and the END, 9
        SortedBlocks x = Due.afterPack(Text.letters("abcdefgh"), 1);
        Due.same("symbols", Due.symbols(x), List.of(8, 2, 3, 4, 5, 6, 7, 8, 9));
        Due.same("groups", Due.picks(x).size(), 2);
        asModel(Text.letters("abcdefgh"), 1);
    }

    static void ofSeveralTablesTheLowest() {
        // with one group, and both tables alike, it picks the first one
        SortedBlocks x = Due.afterPack(List.of(7), 1);
        Due.same("both tables", Due.lengths(x, 0), Due.lengths(x, 1));
        Due.same("picks", Due.picks(x), List.of(0));
    }

    static void manyRowsAsTheModelHasThem() {
        for (int n = 1; n <= 64; n++) {
            asModel(Text.rising(n), 8);
            List<Integer> row = new ArrayList<>();
            for (int i = 0; i < n; i++) {
                row.add(i * i % 11 * 20);
            }
            asModel(row, 8);
        }
    }

    private static void asModel(List<Integer> bytes, int level) {
        SortedBlocks x = Due.afterPack(bytes, level);
        Model.Told b = Model.blockOf(bytes);
        Due.same("picks of " + bytes, Due.picks(x), b.picks);
        for (int t = 0; t < b.lengths.size(); t++) {
            List<Integer> due = new ArrayList<>();
            for (int length : b.lengths.get(t)) {
                due.add(length);
            }
            Due.same("lengths " + t + " of " + bytes, Due.lengths(x, t), due);
        }
    }

    /** Many kinds of bytes of which some are far more frequent: lengths that are far from each other. */
    static void lengthsGoUpAndDownStepByStep() {
        List<Integer> row = new ArrayList<>();
        for (int i = 0; i < 24; i++) {
            row.addAll(List.of(200, 201));
        }
        row.addAll(Text.rising(16));
        Model m = new Model();
        m.in = row;
        m.pack(8);
        Due.same("stream", Due.packed(row, 8), m.out);
        SortedBlocks x = Due.fed(m.out);
        Due.same("unpack", x.unpack(), 64);
        Due.same("bytes", Due.out(x), row);
    }
}
