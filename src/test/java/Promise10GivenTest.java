import java.util.List;

/** Promise 10: given. */
public final class Promise10GivenTest {
    public static void main(String[] args) {
        Due.runAll(Promise10GivenTest.class);
    }

    static void ofAnEmptyAndOfAFullIn() {
        Due.same("new", new SortedBlocks().given(), 0);
        Due.same("one", Due.fed(List.of(0)).given(), 1);
        Due.same("399", Due.fed(Text.stairs(399)).given(), 399);
        Due.same("400", Due.fed(Text.stairs(400)).given(), 400);
        SortedBlocks x = Due.fed(Text.stairs(400));
        x.keep(0);
        Due.same("emptied", x.given(), 0);
    }

    static void followsWhatChangesIn() {
        SortedBlocks x = new SortedBlocks();
        x.feed(1, 5);
        Due.same("feed", x.given(), 5);
        x.damage(39);
        Due.same("damage", x.given(), 5);
        x.pack(1);
        Due.same("pack", x.given(), 5);
        int more = x.size();
        x.append();
        Due.same("append", x.given(), 5 + more);
        x.unpack();
        x.rescue();
        Due.same("unpack and rescue", x.given(), 5 + more);
        x.keep(2);
        Due.same("keep", x.given(), 2);
    }

    static void refusedCallsLeaveIt() {
        SortedBlocks x = Due.fed(Text.stairs(396));
        x.pack(8);
        Due.refused("feed", UnsupportedOperationException.class, () -> x.feed(1, 5));
        Due.refused("feed", IllegalArgumentException.class, () -> x.feed(1, 0));
        Due.refused("keep", IllegalArgumentException.class, () -> x.keep(397));
        Due.refused("damage", IndexOutOfBoundsException.class, () -> x.damage(8 * 396));
        Due.refused("append", UnsupportedOperationException.class, x::append);
        Due.refused("pack", IllegalArgumentException.class, () -> x.pack(9));
        Due.same("given", x.given(), 396);
    }
}
