import java.util.List;

/** Promise 14: block. */
public final class Promise14BlockTest {
    private static final int BANANA_CHECK = 0x6AB4;

    public static void main(String[] args) {
        Due.runAll(Promise14BlockTest.class);
    }

    private static void told(String what, SortedBlocks x, int... due) {
        for (int k = 0; k < 5; k++) {
            Due.same(what + ": block(" + k + ")", x.block(k), due[k]);
        }
    }

    private static void noneForAnother(SortedBlocks x) {
        for (int what : new int[] {-1, 5, 6, 256, -5, Integer.MIN_VALUE, Integer.MAX_VALUE}) {
            Due.same("block(" + what + ")", x.block(what), SortedBlocks.NONE);
        }
    }

    static void isNoneWith0Blocks() {
        Due.toldNothing("new", new SortedBlocks());
        noneForAnother(new SortedBlocks());
        SortedBlocks x = Due.busy(List.of());
        x.pack(1);
        Due.toldNothing("packed none", x);
        SortedBlocks y = Due.busy(List.of(83, 66, 1, 0x17, 0x72, 0x45, 0, 0));
        y.unpack();
        Due.toldNothing("unpacked none", y);
        SortedBlocks z = Due.busy(List.of());
        z.rescue();
        Due.toldNothing("rescued none", z);
    }

    static void isNoneForAnotherWhat() {
        noneForAnother(Due.busy(List.of()));
    }

    static void ofABlockThatWasPackedUnpackedOrRescued() {
        SortedBlocks x = Due.afterPack(Text.letters("banana"), 1);
        told("packed", x, 3, 6, 6, 2, BANANA_CHECK);
        x.keep(0);
        x.append();
        x.unpack();
        told("unpacked", x, 3, 6, 6, 2, BANANA_CHECK);
        x.keep(0);
        x.pack(1);
        x.rescue();
        Due.toldNothing("nothing to rescue", x);
        Due.feed(x, Due.packed(Text.letters("banana"), 1));
        x.rescue();
        told("rescued", x, 3, 6, 6, 2, BANANA_CHECK);
        noneForAnother(x);
    }

    static void isOfTheLastOne() {
        // abcdefgh, and then a block of i alone
        SortedBlocks x = Due.afterPack(Text.letters("abcdefghi"), 1);
        told("packed", x, 0, 1, 2, 2, Model.checkOf(Text.letters("i")));
        x.keep(0);
        x.append();
        x.unpack();
        told("unpacked", x, 0, 1, 2, 2, Model.checkOf(Text.letters("i")));
        x.rescue();
        told("rescued", x, 0, 1, 2, 2, Model.checkOf(Text.letters("i")));
        // of two streams the last one that has a block
        Due.feed(x, Due.packed(Text.letters("banana"), 1));
        Due.feed(x, List.of(83, 66, 1, 0x17, 0x72, 0x45, 0, 0));
        Due.same("unpack", x.unpack(), 15);
        told("two streams", x, 3, 6, 6, 2, BANANA_CHECK);
    }

    static void ofTheShortestBlock() {
        told("one byte", Due.afterPack(List.of(0), 1), 0, 1, 2, 2, 0xE1F0);
    }

    static void ofTheLongestBlock() {
        List<Integer> row = Text.join(List.of(64), Text.rising(63));
        SortedBlocks x = Due.afterPack(row, 8);
        told("64 bytes", x, 63, 64, 65, 3, Model.checkOf(row));
        x.keep(0);
        x.append();
        Due.same("unpack", x.unpack(), 64);
        told("64 bytes unpacked", x, 63, 64, 65, 3, Model.checkOf(row));
    }

    static void shortenedBytesAreCounted() {
        Due.same("4 bytes", Due.afterPack(Text.many(4, 7), 8).block(1), 5);
        Due.same("255 bytes", Due.afterPack(Text.many(255, 7), 8).block(1), 5);
        Due.same("256 bytes", Due.afterPack(Text.many(256, 7), 8).block(1), 6);
        Due.same("400 bytes", Due.afterPack(Text.many(400, 7), 8).block(1), 10);
    }

    static void repeatedSymbolsAndTheEndAreCounted() {
        // seven places 0 are three digits
        int check = Model.checkOf(Text.many(4 + 97 + 2, 97));
        SortedBlocks x = Due.fed(new Text().head(1).letterBlock(check, 0, "10", "10", "10", "0").end(check).bytes());
        Due.same("unpack", x.unpack(), 103);
        told("three digits and the END", x, 0, 7, 4, 1, check);
    }

    static void tablesAreThoseThatWereRead() {
        int check = Model.checkOf(List.of(97));
        for (int t = 1; t <= 4; t++) {
            Text text = new Text().head(1).blockHead(check, 0, 1).number(t, 3).number(1, 6).bits("0");
            for (int k = 0; k < t; k++) {
                text.number(2, 5).all("0", "0", "11", "0");
            }
            SortedBlocks x = Due.fed(text.all("10", "0").end(check).bytes());
            Due.same("unpack", x.unpack(), 1);
            Due.same("tables", x.block(3), t);
        }
    }

    static void theCheckIs0To65535() {
        Due.same("0", Due.afterPack(List.of(0, 0xE1, 0xF0), 1).block(4), 0);
        Due.same("above 32767", Due.afterPack(List.of(255), 1).block(4), 0xFF00);
    }
}
