import java.util.List;

/** Promise 12: out. */
public final class Promise12OutTest {
    public static void main(String[] args) {
        Due.runAll(Promise12OutTest.class);
    }

    private static void refuses(SortedBlocks x, int i) {
        int size = x.size();
        String before = Seen.butGiven(x);
        Due.refused("out(" + i + ") of " + size, IndexOutOfBoundsException.class, () -> x.out(i));
        Due.same("all stays", Seen.butGiven(x), before);
    }

    static void ofAnEmptyOut() {
        refuses(new SortedBlocks(), 0);
        refuses(new SortedBlocks(), -1);
        refuses(new SortedBlocks(), 1);
    }

    static void takesTheFirstByteAndRefusesTheOneBefore() {
        Due.same("out(0)", Due.busy(List.of()).out(0), 83);
        refuses(Due.busy(List.of()), -1);
    }

    static void takesTheLastByteAndRefusesTheOneBehind() {
        SortedBlocks x = Due.fed(Text.letters("banana"));
        x.pack(1);
        Due.same("size", x.size(), 25);
        Model m = new Model();
        m.in = Text.letters("banana");
        m.pack(1);
        Due.same("out(24)", x.out(24), m.out.get(24));
        refuses(x, 25);
    }

    static void refusesPlacesFarOff() {
        for (int i : new int[] {26, 400, 2000, 4600, -25, Integer.MIN_VALUE, Integer.MAX_VALUE}) {
            refuses(Due.busy(List.of()), i);
        }
    }

    static void bytesAre0To255() {
        List<Integer> bytes = List.of(0, 1, 127, 128, 129, 254, 255);
        SortedBlocks x = Due.fed(Due.packed(bytes, 1));
        x.unpack();
        Due.same("bytes", Due.out(x), bytes);
    }

    static void ofTheLongestUnpackedOut() {
        SortedBlocks x = new SortedBlocks();
        for (int k = 0; k < 5; k++) {
            Due.feed(x, Due.packed(Text.join(Text.many(399, 65), List.of(66 + k)), 8));
        }
        Due.same("unpack", x.unpack(), 2000);
        Due.same("out(0)", x.out(0), 65);
        Due.same("out(399)", x.out(399), 66);
        Due.same("out(400)", x.out(400), 65);
        Due.same("out(1998)", x.out(1998), 65);
        Due.same("out(1999)", x.out(1999), 70);
        refuses(x, 2000);
    }

    static void whatWasThereBeforeIsGone() {
        SortedBlocks x = Due.busy(List.of(83, 66, 1, 0x17, 0x72, 0x45, 0, 0));
        x.unpack();
        refuses(x, 0);
        SortedBlocks y = Due.fed(Text.rising(100));
        y.pack(1);
        y.keep(0);
        Due.same("pack of none", y.pack(1), 8);
        Due.same("out(7)", y.out(7), 0);
        refuses(y, 8);
        SortedBlocks z = Due.busy(List.of());
        z.rescue();
        refuses(z, 0);
    }
}
