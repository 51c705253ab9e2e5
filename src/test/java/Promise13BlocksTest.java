import java.util.List;

/** Promise 13: blocks. */
public final class Promise13BlocksTest {
    private static final List<Integer> TWENTY = Text.letters("abcdefghijklmnopqrst");

    public static void main(String[] args) {
        Due.runAll(Promise13BlocksTest.class);
    }

    /** An object that has packed three blocks, and has their stream in IN. */
    private static SortedBlocks three() {
        SortedBlocks x = Due.fed(TWENTY);
        x.pack(1);
        Due.same("blocks packed", x.blocks(), 3);
        x.keep(0);
        x.append();
        return x;
    }

    static void isZeroWhenThereWasNone() {
        SortedBlocks x = new SortedBlocks();
        Due.same("new", x.blocks(), 0);
        x.unpack();
        Due.same("only an unpack with a fault", x.blocks(), 0);
        Due.refused("pack(0)", IllegalArgumentException.class, () -> x.pack(0));
        Due.same("only a refused pack", x.blocks(), 0);
        Due.feed(x, TWENTY);
        Due.same("only fed", x.blocks(), 0);
    }

    static void ofPack() {
        for (int n : new int[] {0, 1, 7, 8, 9, 16, 17, 24, 25}) {
            SortedBlocks x = Due.afterPack(Text.rising(n), 1);
            Due.same("blocks of " + n, x.blocks(), (n + 7) / 8);
        }
        Due.same("the most", Due.afterPack(Text.join(Text.rising(200), Text.rising(200)), 1).blocks(), 50);
    }

    static void ofUnpackInAllStreams() {
        SortedBlocks x = three();
        x.append();
        Due.same("unpack", x.unpack(), 40);
        Due.same("two streams", x.blocks(), 6);
        SortedBlocks y = Due.busy(List.of(83, 66, 1, 0x17, 0x72, 0x45, 0, 0));
        Due.same("unpack", y.unpack(), 0);
        Due.toldNothing("a stream without a block", y);
    }

    static void ofRescue() {
        SortedBlocks x = three();
        Due.same("rescue", x.rescue(), 3);
        Due.same("three", x.blocks(), 3);
        x.damage(30);
        Due.same("rescue", x.rescue(), 2);
        Due.same("two", x.blocks(), 2);
        x.keep(0);
        Due.same("rescue", x.rescue(), 0);
        Due.toldNothing("none", x);
    }

    static void ofTheLatestOfThem() {
        SortedBlocks x = three();
        x.unpack();
        Due.same("unpack", x.blocks(), 3);
        x.pack(8);
        int packed = x.blocks();
        Due.same("pack", packed, Due.afterPack(Due.packed(TWENTY, 1), 8).blocks());
        x.rescue();
        Due.same("rescue", x.blocks(), 3);
        x.keep(0);
        x.pack(8);
        Due.toldNothing("pack of none", x);
    }

    static void aFaultLeavesItAndWhatIsTold() {
        SortedBlocks x = three();
        x.unpack();
        String before = Seen.told(x);
        x.keep(0);
        // a good block of another kind, and behind it one that is cut off
        Due.feed(x, new Text().head(8).bits(Text.block("wxyz")).bits(Text.block("abc").substring(0, 120)).bytes());
        Due.same("a fault in the second block", x.unpack(), SortedBlocks.SHORT);
        Due.same("told", Seen.told(x), before);
        x.keep(1);
        Due.same("a fault in the head", x.unpack(), SortedBlocks.SHORT);
        Due.same("told again", Seen.told(x), before);
    }

    static void aFaultLeavesNothingIfNothingWasTold() {
        SortedBlocks x = Due.fed(new Text().head(8).bits(Text.block("wxyz")).end(0).bytes());
        Due.same("a fault in the total", x.unpack(), SortedBlocks.TOTAL);
        Due.toldNothing("a fault at first", x);
        SortedBlocks y = Due.busy(List.of());
        y.rescue();
        Due.feed(y, new Text().head(8).bits(Text.block("wxyz")).end(0).bytes());
        Due.same("a fault in the total", y.unpack(), SortedBlocks.TOTAL);
        Due.toldNothing("a fault after a rescue of none", y);
    }

    static void whatThrewLeavesItAndWhatIsTold() {
        SortedBlocks x = three();
        String before = Seen.told(x);
        x.keep(0);
        List<Integer> most = Due.packed(Text.many(400, 65), 8);
        for (int k = 0; k < 6; k++) {
            Due.feed(x, most);
        }
        Due.refused("2400 bytes", IllegalStateException.class, x::unpack);
        Due.same("told after unpack", Seen.told(x), before);
        Due.refused("pack(9)", IllegalArgumentException.class, () -> x.pack(9));
        Due.same("told after pack", Seen.told(x), before);
    }

    static void theOtherCallsLeaveItAndWhatIsTold() {
        SortedBlocks x = three();
        String before = Seen.told(x);
        x.feed(5, 8);
        x.damage(17);
        x.append();
        x.keep(3);
        x.keep(0);
        Due.same("told", Seen.told(x), before);
    }

    /** As many blocks as can be rescued or unpacked from 400 bytes. */
    static void theMostThatAreRead() {
        int check = Model.checkOf(List.of(97));
        int one = new Text().letterBlock(check, 0, "10", "0").size();
        int most = (3200 - 24 - 40) / one;
        Text text = new Text().head(1);
        int total = 0;
        for (int k = 0; k < most; k++) {
            text.letterBlock(check, 0, "10", "0");
            total = Model.turn(total) ^ check;
        }
        SortedBlocks x = Due.fed(text.end(total).bytes());
        Due.same("unpack", x.unpack(), most);
        Due.same("blocks", x.blocks(), most);
        Due.same("rescue", x.rescue(), most);
        Due.same("blocks", x.blocks(), most);
    }
}
