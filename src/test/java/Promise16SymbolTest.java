import java.util.List;

/** Promise 16: symbol. */
public final class Promise16SymbolTest {
    public static void main(String[] args) {
        Due.runAll(Promise16SymbolTest.class);
    }

    private static void symbols(String what, SortedBlocks x, List<Integer> due) {
        for (int i = 0; i < due.size(); i++) {
            Due.same(what + ": symbol(" + i + ")", x.symbol(i), due.get(i));
        }
        for (int i : new int[] {-1, due.size(), due.size() + 1, 65, 66, Integer.MIN_VALUE, Integer.MAX_VALUE}) {
            Due.same(what + ": symbol(" + i + ")", x.symbol(i), SortedBlocks.NONE);
        }
    }

    static void isNoneWith0Blocks() {
        symbols("new", new SortedBlocks(), List.of());
        SortedBlocks x = Due.busy(List.of());
        x.pack(1);
        symbols("packed none", x, List.of());
        SortedBlocks y = Due.busy(List.of());
        y.rescue();
        symbols("rescued none", y, List.of());
    }

    static void ofABlockThatWasPackedUnpackedOrRescued() {
        SortedBlocks x = Due.afterPack(Text.letters("banana"), 1);
        symbols("packed", x, List.of(3, 0, 3, 3, 1, 4));
        x.keep(0);
        x.append();
        x.unpack();
        symbols("unpacked", x, List.of(3, 0, 3, 3, 1, 4));
        x.rescue();
        symbols("rescued", x, List.of(3, 0, 3, 3, 1, 4));
    }

    static void ofTheShortestAndTheLongestBlock() {
        symbols("one byte", Due.afterPack(List.of(7), 8), List.of(0, 2));
        SortedBlocks x = Due.afterPack(Text.rising(64), 8);
        Due.same("symbols of 64 bytes", x.block(2), 65);
        Due.same("symbol(63)", x.symbol(63), 64);
        Due.same("symbol(64), the END", x.symbol(64), 65);
        Due.same("symbol(65)", x.symbol(65), SortedBlocks.NONE);
    }

    static void theGreatestSymbols() {
        int check = Model.checkOf(List.of(255));
        Text text = new Text().head(1).bits(Model.BLOCK).number(check, 16).number(0, 6);
        for (int i = 0; i <= 16; i++) {
            text.number(0xFFFF, 16);
        }
        text.number(1, 3).number(1, 6).bits("0").number(9, 5).bits("0".repeat(258));
        text.number(256, 9).number(257, 9).end(check);
        SortedBlocks x = Due.fed(text.bytes());
        Due.same("unpack", x.unpack(), 1);
        symbols("all bytes in the map", x, List.of(256, 257));
    }

    static void aShorterBlockBehindALongerOne() {
        symbols("of two blocks the last", Due.afterPack(Text.letters("abcdefghi"), 1), List.of(0, 2));
        SortedBlocks x = Due.afterPack(Text.rising(64), 8);
        x.keep(2);
        x.pack(8);
        symbols("of two packs the last", x, List.of(2, 2, 3));
        x.keep(0);
        Due.feed(x, Due.packed(List.of(9), 1));
        x.unpack();
        symbols("unpacked", x, List.of(0, 2));
    }
}
