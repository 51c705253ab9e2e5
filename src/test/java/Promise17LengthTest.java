import java.util.List;

/** Promise 17: length. */
public final class Promise17LengthTest {
    private static final int MIN = Integer.MIN_VALUE, MAX = Integer.MAX_VALUE;

    public static void main(String[] args) {
        Due.runAll(Promise17LengthTest.class);
    }

    private static void table(String what, SortedBlocks x, int table, List<Integer> due) {
        for (int s = 0; s < due.size(); s++) {
            Due.same(what + ": length(" + table + ", " + s + ")", x.length(table, s), due.get(s));
        }
        for (int s : new int[] {-1, due.size(), due.size() + 1, 257, 258, MIN, MAX}) {
            if (s < 0 || s >= due.size()) {
                Due.same(what + ": length(" + table + ", " + s + ")", x.length(table, s), SortedBlocks.NONE);
            }
        }
    }

    private static void noTable(String what, SortedBlocks x, int tables) {
        for (int t : new int[] {-1, tables, tables + 1, 4, 5, MIN, MAX}) {
            for (int s : new int[] {-1, 0, 1, 2, MIN, MAX}) {
                Due.same(what + ": length(" + t + ", " + s + ")", x.length(t, s), SortedBlocks.NONE);
            }
        }
    }

    static void isNoneWith0Blocks() {
        noTable("new", new SortedBlocks(), 0);
        SortedBlocks x = Due.busy(List.of());
        x.pack(1);
        noTable("packed none", x, 0);
        SortedBlocks y = Due.busy(List.of());
        y.rescue();
        noTable("rescued none", y, 0);
    }

    private static void banana(String what, SortedBlocks x) {
        table(what, x, 0, List.of(3, 3, 3, 1, 3));
        table(what, x, 1, List.of(3, 3, 2, 2, 2));
        noTable(what, x, 2);
    }

    static void ofABlockThatWasPackedUnpackedOrRescued() {
        SortedBlocks x = Due.afterPack(Text.letters("banana"), 1);
        banana("packed", x);
        x.keep(0);
        x.append();
        x.unpack();
        banana("unpacked", x);
        x.rescue();
        banana("rescued", x);
    }

    static void symbolsAre0ToMPlus1() {
        // one kind: the symbols 0, 1 and 2
        SortedBlocks x = Due.afterPack(List.of(7), 1);
        table("one kind", x, 0, List.of(2, 2, 1));
        table("one kind", x, 1, List.of(2, 2, 1));
        // 64 kinds: up to 65
        SortedBlocks y = Due.afterPack(Text.rising(64), 8);
        for (int t = 0; t < 3; t++) {
            Due.same("64 kinds: length(" + t + ", 65)", y.length(t, 65) > 0, true);
            Due.same("64 kinds: length(" + t + ", 66)", y.length(t, 66), SortedBlocks.NONE);
        }
        noTable("64 kinds", y, 3);
    }

    static void allBytesInTheMap() {
        int check = Model.checkOf(List.of(255));
        Text text = new Text().head(1).bits(Model.BLOCK).number(check, 16).number(0, 6);
        for (int i = 0; i <= 16; i++) {
            text.number(0xFFFF, 16);
        }
        text.number(1, 3).number(1, 6).bits("0").number(9, 5).bits("0".repeat(258));
        text.number(256, 9).number(257, 9).end(check);
        SortedBlocks x = Due.fed(text.bytes());
        Due.same("unpack", x.unpack(), 1);
        Due.same("length(0, 0)", x.length(0, 0), 9);
        Due.same("length(0, 257)", x.length(0, 257), 9);
        Due.same("length(0, 258)", x.length(0, 258), SortedBlocks.NONE);
        Due.same("length(1, 0)", x.length(1, 0), SortedBlocks.NONE);
    }

    /** Lengths 1 and 12, in the last of four tables, of which some are not picked. */
    static void ofTheTablesThatWereRead() {
        int check = Model.checkOf(Text.letters("bb"));
        Text text = new Text().head(8).blockHead(check, 0, 3).number(4, 3).number(5, 6);
        text.all("1110", "0", "10", "110", "1110");
        for (int t = 0; t < 4; t++) {
            int[] lengths = t == 3 ? new int[] {1, 12, 12, 2, 3} : new int[] {3 + t, 3 + t, 3 + t, 3 + t, 3 + t};
            text.bits(Model.writeLengths(lengths));
        }
        // codes of table 3: 0, then 10, 110, then 111 and nine bits 0, and the one behind it
        text.all("111000000001", "0", "110").end(check);
        SortedBlocks x = Due.fed(text.bytes());
        Due.same("unpack", x.unpack(), 2);
        Due.same("bytes", Due.out(x), Text.letters("bb"));
        for (int t = 0; t < 3; t++) {
            table("not picked at first", x, t, Text.many(5, 3 + t));
        }
        table("picked", x, 3, List.of(1, 12, 12, 2, 3));
        noTable("four tables", x, 4);
    }

    static void aSmallerBlockBehindAGreaterOne() {
        SortedBlocks x = Due.afterPack(Text.rising(65), 8);
        table("of two blocks the last", x, 0, List.of(2, 2, 1));
        table("of two blocks the last", x, 1, List.of(2, 2, 1));
        noTable("of two blocks the last", x, 2);
        x.keep(0);
        int check = Model.checkOf(List.of(97));
        Due.feed(x, new Text().head(1).letterBlock(check, 0, "10", "0").end(check).bytes());
        x.unpack();
        table("unpacked", x, 0, List.of(2, 2, 1));
        noTable("unpacked", x, 1);
    }
}
