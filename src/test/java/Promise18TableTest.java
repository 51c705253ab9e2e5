import java.util.List;

/** Promise 18: table. */
public final class Promise18TableTest {
    private static final int CHECK_A = Model.checkOf(List.of(97));

    public static void main(String[] args) {
        Due.runAll(Promise18TableTest.class);
    }

    private static void picks(String what, SortedBlocks x, List<Integer> due) {
        for (int g = 0; g < due.size(); g++) {
            Due.same(what + ": table(" + g + ")", x.table(g), due.get(g));
        }
        for (int g : new int[] {-1, due.size(), due.size() + 1, 63, 64, Integer.MIN_VALUE, Integer.MAX_VALUE}) {
            Due.same(what + ": table(" + g + ")", x.table(g), SortedBlocks.NONE);
        }
    }

    static void isNoneWith0Blocks() {
        picks("new", new SortedBlocks(), List.of());
        SortedBlocks x = Due.busy(List.of());
        x.pack(1);
        picks("packed none", x, List.of());
        SortedBlocks y = Due.busy(List.of());
        y.rescue();
        picks("rescued none", y, List.of());
    }

    static void ofABlockThatWasPackedUnpackedOrRescued() {
        SortedBlocks x = Due.afterPack(Text.letters("banana"), 1);
        picks("packed", x, List.of(0));
        x.keep(0);
        x.append();
        x.unpack();
        picks("unpacked", x, List.of(0));
        x.rescue();
        picks("rescued", x, List.of(0));
    }

    static void asManyGroupsAsThereAreSymbolsFor() {
        for (int n : new int[] {7, 8, 15, 16, 31, 32, 63, 64}) {
            SortedBlocks x = Due.afterPack(Text.rising(n), 8);
            List<Integer> due = Model.blockOf(Text.rising(n)).picks;
            Due.same("groups of " + n, due.size(), (n + 1 + 7) / 8);
            picks("rising " + n, x, due);
        }
    }

    /** A block of the letter a with so many groups and tables, each group picking the last of the list. */
    private static SortedBlocks read(int tables, int groups) {
        Text text = new Text().head(1).blockHead(CHECK_A, 0, 1).number(tables, 3).number(groups, 6);
        for (int g = 0; g < groups; g++) {
            text.bits("1".repeat(tables - 1) + "0");
        }
        for (int t = 0; t < tables; t++) {
            text.number(2, 5).all("0", "0", "11", "0");
        }
        SortedBlocks x = Due.fed(text.all("10", "0").end(CHECK_A).bytes());
        Due.same("unpack", x.unpack(), 1);
        return x;
    }

    static void asManyGroupsAsTheSixBitsSay() {
        picks("one group", read(1, 1), List.of(0));
        picks("two groups, and symbols for one", read(2, 2), List.of(1, 0));
        picks("five groups of four tables", read(4, 5), List.of(3, 2, 1, 0, 3));
        picks("62 groups", read(1, 62), Text.many(62, 0));
        picks("63 groups", read(1, 63), Text.many(63, 0));
        SortedBlocks x = read(3, 63);
        for (int g = 0; g < 63; g++) {
            Due.same("63 groups of three tables: table(" + g + ")", x.table(g), 2 - g % 3);
        }
        Due.same("table(63)", x.table(63), SortedBlocks.NONE);
    }

    static void groupsThatNoSymbolIsReadInAreToldToo() {
        int check = Model.checkOf(Text.letters("bb"));
        Text text = new Text().head(8).blockHead(check, 0, 3).number(4, 3).number(5, 6);
        text.all("1110", "0", "10", "110", "1110");
        for (int t = 0; t < 4; t++) {
            text.bits(Model.writeLengths(new int[] {3, 3, 3, 3, 3}));
        }
        // symbols 0 .. 4 have the three bits of s: place 1, one A, the END
        text.all("010", "000", "100").end(check);
        SortedBlocks x = Due.fed(text.bytes());
        Due.same("unpack", x.unpack(), 2);
        picks("made block", x, List.of(3, 3, 0, 1, 2));
    }

    static void fewerGroupsBehindMore() {
        SortedBlocks x = Due.afterPack(Text.rising(65), 8);
        picks("of two blocks the last", x, List.of(0));
        SortedBlocks y = read(1, 63);
        y.keep(0);
        Due.feed(y, Due.packed(List.of(9), 1));
        y.unpack();
        picks("unpacked", y, List.of(0));
    }
}
