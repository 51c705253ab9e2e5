import java.util.ArrayList;
import java.util.List;

/** Promise 8: at. */
public final class Promise08AtTest {
    private static final List<Integer> BANANA = Text.letters("banana");
    private static final List<Integer> STREAM = Due.packed(BANANA, 1);

    public static void main(String[] args) {
        Due.runAll(Promise08AtTest.class);
    }

    /** An object whose latest unpack answered HEAD at 16. */
    private static SortedBlocks faulty() {
        SortedBlocks x = Due.fed(List.of(83, 66, 9));
        Due.same("unpack", x.unpack(), SortedBlocks.HEAD);
        Due.same("at", x.at(), 16);
        return x;
    }

    static void isNoneBeforeAnUnpack() {
        Due.same("new", new SortedBlocks().at(), SortedBlocks.NONE);
        SortedBlocks x = Due.fed(BANANA);
        x.pack(1);
        x.rescue();
        x.append();
        x.damage(0);
        x.keep(1);
        Due.same("after all but unpack", x.at(), SortedBlocks.NONE);
    }

    static void isTheBitOfTheFault() {
        Due.same("asked twice", faulty().at(), 16);
        SortedBlocks x = new SortedBlocks();
        x.unpack();
        Due.same("empty IN", x.at(), 0);
        // the end of a full IN
        List<Integer> full = new ArrayList<>();
        for (int k = 0; k < 49; k++) {
            full.addAll(List.of(83, 66, 1, 0x17, 0x72, 0x45, 0, 0));
        }
        SortedBlocks y = Due.fed(Text.join(full, List.of(83, 66, 1, 0x31, 0x41, 0x59, 0, 0)));
        Due.same("given", y.given(), 400);
        Due.same("full IN", y.unpack(), SortedBlocks.SHORT);
        Due.same("full IN: at", y.at(), 3200);
    }

    static void isThatOfTheLatestUnpack() {
        SortedBlocks x = faulty();
        x.keep(0);
        Due.same("SHORT", x.unpack(), SortedBlocks.SHORT);
        Due.same("at 0", x.at(), 0);
        Due.feed(x, List.of(83, 66, 1));
        Due.same("SHORT", x.unpack(), SortedBlocks.SHORT);
        Due.same("at 24", x.at(), 24);
    }

    static void isNoneWhenUnpackAnsweredNoFault() {
        SortedBlocks x = faulty();
        x.keep(0);
        Due.feed(x, STREAM);
        Due.same("unpack", x.unpack(), 6);
        Due.same("at", x.at(), SortedBlocks.NONE);
        SortedBlocks y = faulty();
        y.keep(0);
        Due.feed(y, List.of(83, 66, 1, 0x17, 0x72, 0x45, 0, 0));
        Due.same("unpack of no block", y.unpack(), 0);
        Due.same("at", y.at(), SortedBlocks.NONE);
    }

    static void isNoneWhenUnpackThrew() {
        SortedBlocks x = faulty();
        x.keep(0);
        List<Integer> most = Due.packed(Text.many(400, 65), 8);
        for (int k = 0; k < 6; k++) {
            Due.feed(x, most);
        }
        Due.refused("2400 bytes", IllegalStateException.class, x::unpack);
        Due.same("at", x.at(), SortedBlocks.NONE);
    }

    static void packLeavesIt() {
        SortedBlocks x = faulty();
        x.pack(1);
        Due.same("after pack", x.at(), 16);
        Due.refused("pack(0)", IllegalArgumentException.class, () -> x.pack(0));
        Due.same("after a refused pack", x.at(), 16);
    }

    static void rescueLeavesIt() {
        SortedBlocks x = faulty();
        Due.same("rescue of none", x.rescue(), 0);
        Due.same("after rescue of none", x.at(), 16);
        Due.feed(x, STREAM);
        Due.same("rescue of one", x.rescue(), 1);
        Due.same("after rescue of one", x.at(), 16);
        // the block is met with a fault
        x.damage(8 * 3 + 50);
        Due.same("rescue of a broken one", x.rescue(), 0);
        Due.same("after rescue of a broken one", x.at(), 16);
        // and after an unpack without a fault it stays NONE
        SortedBlocks y = Due.fed(STREAM);
        y.unpack();
        y.damage(50);
        Due.same("rescue of a broken one", y.rescue(), 0);
        Due.same("still NONE", y.at(), SortedBlocks.NONE);
    }

    static void theOtherCallsLeaveIt() {
        SortedBlocks x = faulty();
        x.feed(1, 1);
        x.damage(0);
        x.append();
        x.keep(1);
        x.keep(0);
        Due.same("after feed, damage, append and keep", x.at(), 16);
        x.given();
        x.size();
        x.blocks();
        Due.toldNothing("faulty", x);
        Due.same("after all that is only asked", x.at(), 16);
        Due.refused("feed", IllegalArgumentException.class, () -> x.feed(1, 9));
        Due.refused("keep", IllegalArgumentException.class, () -> x.keep(9));
        Due.refused("damage", IndexOutOfBoundsException.class, () -> x.damage(9));
        Due.refused("out", IndexOutOfBoundsException.class, () -> x.out(9));
        Due.same("after refused calls", x.at(), 16);
    }
}
