import java.util.List;

/** Promise 3: keep. */
public final class Promise03KeepTest {
    private static final List<Integer> BANANA = Text.letters("banana");

    public static void main(String[] args) {
        Due.runAll(Promise03KeepTest.class);
    }

    static void keepsTheFirstBytes() {
        for (int n = 0; n <= 6; n++) {
            int kept = n;
            Due.changesOnlyIn("keep(" + n + ")", BANANA, BANANA.subList(0, n), x -> x.keep(kept));
        }
    }

    static void takesAllAndRefusesOneMore() {
        Due.changesOnlyIn("keep(6) of 6", BANANA, BANANA, x -> x.keep(6));
        refuses(BANANA, 7);
    }

    static void takes0AndRefusesBelow0() {
        Due.changesOnlyIn("keep(0)", BANANA, List.of(), x -> x.keep(0));
        refuses(BANANA, -1);
    }

    static void ofAnEmptyIn() {
        Due.changesOnlyIn("keep(0) of none", List.of(), List.of(), x -> x.keep(0));
        refuses(List.of(), 1);
        refuses(List.of(), -1);
    }

    static void ofAFullIn() {
        List<Integer> full = Text.stairs(400);
        Due.changesOnlyIn("keep(400) of 400", full, full, x -> x.keep(400));
        Due.changesOnlyIn("keep(399) of 400", full, full.subList(0, 399), x -> x.keep(399));
        Due.changesOnlyIn("keep(0) of 400", full, List.of(), x -> x.keep(0));
        refuses(full, 401);
        refuses(full, -1);
    }

    static void refusesNumbersFarOff() {
        for (int n : new int[] {400, 256 + 6, -6, Integer.MIN_VALUE, Integer.MAX_VALUE}) {
            refuses(BANANA, n);
        }
    }

    private static void refuses(List<Integer> in, int n) {
        Due.refusedWhole("keep(" + n + ") of " + in.size(), in, IllegalArgumentException.class, x -> x.keep(n));
    }

    static void whatWasCutOffIsGone() {
        SortedBlocks x = Due.fed(BANANA);
        x.keep(3);
        Due.refused("keep(4)", IllegalArgumentException.class, () -> x.keep(4));
        Due.refused("damage(24)", IndexOutOfBoundsException.class, () -> x.damage(24));
        Due.same("feed", x.feed('d', 1), 4);
        Due.same("IN", Due.in(x), Text.letters("band"));
    }
}
