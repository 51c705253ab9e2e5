import java.util.List;

/** Promise 11: size. */
public final class Promise11SizeTest {
    public static void main(String[] args) {
        Due.runAll(Promise11SizeTest.class);
    }

    static void ofAnEmptyOut() {
        Due.same("new", new SortedBlocks().size(), 0);
        SortedBlocks x = Due.fed(Text.letters("banana"));
        Due.same("before anything is made", x.size(), 0);
        x.pack(1);
        x.rescue();
        Due.same("nothing rescued", x.size(), 0);
        SortedBlocks y = Due.busy(List.of(83, 66, 1, 0x17, 0x72, 0x45, 0, 0));
        y.unpack();
        Due.same("no byte unpacked", y.size(), 0);
    }

    static void isTheAnswerOfPackAndUnpack() {
        for (int n = 0; n <= 400; n += 50) {
            SortedBlocks x = Due.fed(Text.stairs(n));
            int packed = x.pack(8);
            Due.same("packed", x.size(), packed);
            x.keep(0);
            x.append();
            Due.same("unpack", x.unpack(), n);
            Due.same("unpacked", x.size(), n);
        }
    }

    static void ofTheShortestAndTheLongestOut() {
        Due.same("stream of none", Due.afterPack(List.of(), 1).size(), 8);
        SortedBlocks x = new SortedBlocks();
        for (int k = 0; k < 5; k++) {
            Due.feed(x, Due.packed(Text.many(400, 65), 8));
        }
        x.unpack();
        Due.same("2000", x.size(), 2000);
        // 400 bytes without a run, in 50 blocks
        List<Integer> row = Text.join(Text.rising(200), Text.rising(200));
        Model m = new Model();
        m.in = row;
        m.pack(1);
        Due.same("a long stream", Due.afterPack(row, 1).size(), m.out.size());
        Due.same("it is longer than IN can be", m.out.size() > 400, true);
    }

    static void whatIsRefusedOrFaultyLeavesIt() {
        SortedBlocks x = Due.busy(Text.letters("abc"));
        Due.refused("pack", IllegalArgumentException.class, () -> x.pack(0));
        Due.same("after a refused pack", x.size(), 25);
        Due.same("unpack", x.unpack(), SortedBlocks.HEAD);
        Due.same("after a fault", x.size(), 25);
        x.keep(0);
        x.feed(1, 1);
        x.damage(1);
        Due.same("after keep, feed and damage", x.size(), 25);
        x.append();
        Due.same("after append", x.size(), 25);
    }
}
