import java.util.List;

/** Promise 15: last. */
public final class Promise15LastTest {
    public static void main(String[] args) {
        Due.runAll(Promise15LastTest.class);
    }

    private static void column(String what, SortedBlocks x, List<Integer> due) {
        for (int i = 0; i < due.size(); i++) {
            Due.same(what + ": last(" + i + ")", x.last(i), due.get(i));
        }
        for (int i : new int[] {-1, due.size(), due.size() + 1, 64, 65, Integer.MIN_VALUE, Integer.MAX_VALUE}) {
            Due.same(what + ": last(" + i + ")", x.last(i), SortedBlocks.NONE);
        }
    }

    static void isNoneWith0Blocks() {
        column("new", new SortedBlocks(), List.of());
        SortedBlocks x = Due.busy(List.of());
        x.pack(1);
        column("packed none", x, List.of());
        SortedBlocks y = Due.busy(List.of());
        y.rescue();
        column("rescued none", y, List.of());
    }

    static void ofABlockThatWasPackedUnpackedOrRescued() {
        SortedBlocks x = Due.afterPack(Text.letters("banana"), 1);
        column("packed", x, Text.letters("nnbaaa"));
        x.keep(0);
        x.append();
        x.unpack();
        column("unpacked", x, Text.letters("nnbaaa"));
        x.rescue();
        column("rescued", x, Text.letters("nnbaaa"));
    }

    static void ofTheShortestAndTheLongestBlock() {
        column("one byte", Due.afterPack(List.of(7), 8), List.of(7));
        column("64 bytes", Due.afterPack(Text.rising(64), 8), Text.join(List.of(63), Text.rising(63)));
    }

    static void bytesAre0To255() {
        column("0 and 255", Due.afterPack(List.of(0, 255), 1), List.of(255, 0));
        column("128", Due.afterPack(List.of(128), 1), List.of(128));
    }

    /** The last column has the bytes that say how many more there are, too. */
    static void isOfTheShortenedBytes() {
        column("32 five times", Due.afterPack(Text.many(5, 32), 1), List.of(32, 32, 32, 32, 1));
    }

    static void aShorterBlockBehindALongerOne() {
        column("of two blocks the last", Due.afterPack(Text.letters("abcdefghi"), 1), List.of(105));
        SortedBlocks x = Due.afterPack(Text.rising(64), 8);
        x.keep(2);
        x.pack(8);
        column("of two packs the last", x, List.of(1, 0));
        x.keep(0);
        Due.feed(x, Due.packed(List.of(9), 1));
        x.unpack();
        column("unpacked", x, List.of(9));
    }
}
