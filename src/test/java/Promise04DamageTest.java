import java.util.ArrayList;
import java.util.List;

/** Promise 4: damage. */
public final class Promise04DamageTest {
    private static final List<Integer> THREE = List.of(0x00, 0xFF, 0x35);

    public static void main(String[] args) {
        Due.runAll(Promise04DamageTest.class);
    }

    static void turnsEachBitOver() {
        for (int bit = 0; bit < 24; bit++) {
            int one = bit;
            List<Integer> then = new ArrayList<>(THREE);
            then.set(bit / 8, then.get(bit / 8) ^ 128 >> bit % 8);
            Due.changesOnlyIn("damage(" + bit + ")", THREE, then, x -> x.damage(one));
        }
    }

    static void twiceIsAsBefore() {
        Due.changesOnlyIn("damage twice", THREE, THREE, x -> {
            x.damage(13);
            x.damage(13);
        });
    }

    static void takesTheFirstBitAndRefusesTheOneBefore() {
        Due.changesOnlyIn("damage(0)", THREE, List.of(0x80, 0xFF, 0x35), x -> x.damage(0));
        refuses(THREE, -1);
    }

    static void takesTheLastBitAndRefusesTheOneBehind() {
        Due.changesOnlyIn("damage(23)", THREE, List.of(0x00, 0xFF, 0x34), x -> x.damage(23));
        refuses(THREE, 24);
    }

    static void ofAnEmptyIn() {
        refuses(List.of(), 0);
        refuses(List.of(), -1);
        refuses(List.of(), 1);
    }

    static void ofAFullIn() {
        List<Integer> full = Text.stairs(400);
        List<Integer> then = new ArrayList<>(full);
        then.set(399, full.get(399) ^ 1);
        Due.changesOnlyIn("damage(3199)", full, then, x -> x.damage(3199));
        refuses(full, 3200);
        refuses(full, -1);
    }

    static void refusesBitsFarOff() {
        for (int bit : new int[] {31, 32, 3199, -8, -24, Integer.MIN_VALUE, Integer.MAX_VALUE}) {
            refuses(THREE, bit);
        }
    }

    static void refusesWhatWasCutOff() {
        SortedBlocks x = Due.fed(THREE);
        x.keep(2);
        Due.refused("damage(16)", IndexOutOfBoundsException.class, () -> x.damage(16));
        x.damage(15);
        x.feed(0, 1);
        Due.same("IN", Due.in(x), List.of(0x00, 0xFE, 0x00));
    }

    private static void refuses(List<Integer> in, int bit) {
        Due.refusedWhole("damage(" + bit + ") of " + in.size() + " bytes", in,
                IndexOutOfBoundsException.class, x -> x.damage(bit));
    }
}
