import java.util.List;

/** Promise 1: IN and OUT of a new object are empty. */
public final class Promise01NewObjectTest {
    public static void main(String[] args) {
        Due.runAll(Promise01NewObjectTest.class);
    }

    static void inIsEmpty() {
        Due.same("given", new SortedBlocks().given(), 0);
        Due.refused("damage(0)", IndexOutOfBoundsException.class, () -> new SortedBlocks().damage(0));
        Due.refused("keep(1)", IllegalArgumentException.class, () -> new SortedBlocks().keep(1));
        Due.same("the first feed", new SortedBlocks().feed(1, 1), 1);
        Due.same("unpack", new SortedBlocks().unpack(), SortedBlocks.SHORT);
        Due.same("rescue", new SortedBlocks().rescue(), 0);
        Due.same("pack", Due.packed(List.of(), 1), List.of(83, 66, 1, 0x17, 0x72, 0x45, 0, 0));
    }

    static void outIsEmpty() {
        Due.same("size", new SortedBlocks().size(), 0);
        Due.refused("out(0)", IndexOutOfBoundsException.class, () -> new SortedBlocks().out(0));
        SortedBlocks x = new SortedBlocks();
        Due.same("append", x.append(), 0);
        Due.same("given behind append", x.given(), 0);
    }

    static void nothingIsTold() {
        SortedBlocks x = new SortedBlocks();
        Due.same("at", x.at(), SortedBlocks.NONE);
        Due.toldNothing("new", x);
    }

    static void objectsShareNothing() {
        SortedBlocks x = Due.busy(Text.letters("xyz"));
        String before = Seen.of(x);
        SortedBlocks y = new SortedBlocks();
        Due.same("given of another", y.given(), 0);
        Due.same("size of another", y.size(), 0);
        Due.same("at of another", y.at(), SortedBlocks.NONE);
        Due.toldNothing("another", y);
        Due.feed(y, Text.letters("something else"));
        y.pack(8);
        y.unpack();
        y.rescue();
        Due.same("the first one stays", Seen.of(x), before);
        Due.same("its IN stays", Due.in(x), Text.letters("xyz"));
    }
}
