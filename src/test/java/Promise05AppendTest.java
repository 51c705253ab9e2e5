import java.util.List;

/** Promise 5: append. */
public final class Promise05AppendTest {
    private static final List<Integer> BANANA_STREAM = Due.packed(Text.letters("banana"), 1);

    public static void main(String[] args) {
        Due.runAll(Promise05AppendTest.class);
    }

    /** An object with so many bytes 65 in OUT, up to 2000, and nothing in IN. */
    private static SortedBlocks withOut(int n) {
        SortedBlocks x = new SortedBlocks();
        for (int left = n; left > 0; left -= 400) {
            Due.feed(x, Due.packed(Text.many(Math.min(left, 400), 65), 8));
        }
        Due.same("unpack", x.unpack(), n);
        x.keep(0);
        return x;
    }

    static void appendsOutWhichStays() {
        Due.same("the stream in OUT of a busy object", BANANA_STREAM.size(), 25);
        Due.changesOnlyIn("append", Text.letters("abc"), Text.join(Text.letters("abc"), BANANA_STREAM),
                x -> Due.same("append", x.append(), 28));
        Due.changesOnlyIn("append to an empty IN", List.of(), BANANA_STREAM,
                x -> Due.same("append", x.append(), 25));
        Due.changesOnlyIn("append twice", List.of(), Text.join(BANANA_STREAM, BANANA_STREAM), x -> {
            Due.same("append", x.append(), 25);
            Due.same("append again", x.append(), 50);
        });
    }

    static void takesUpTo400AndRefuses401() {
        Due.changesOnlyIn("append up to 400", Text.stairs(375), Text.join(Text.stairs(375), BANANA_STREAM),
                x -> Due.same("append", x.append(), 400));
        Due.refusedWhole("append up to 401", Text.stairs(376), UnsupportedOperationException.class,
                SortedBlocks::append);
        Due.refusedWhole("append to a full IN", Text.stairs(400), UnsupportedOperationException.class,
                SortedBlocks::append);
    }

    static void takesAnOutOf400AndRefusesOneOf401() {
        SortedBlocks x = withOut(400);
        Due.same("append 400", x.append(), 400);
        Due.same("IN", Due.in(x), Text.many(400, 65));
        SortedBlocks y = withOut(401);
        Due.refused("append 401", UnsupportedOperationException.class, y::append);
        Due.same("given", y.given(), 0);
        Due.same("size", y.size(), 401);
        SortedBlocks z = withOut(400);
        z.feed(66, 1);
        Due.refused("append 400 to 1", UnsupportedOperationException.class, z::append);
        Due.same("IN", Due.in(z), List.of(66));
    }

    static void refusesTheLongestOut() {
        SortedBlocks x = withOut(2000);
        Due.refused("append 2000", UnsupportedOperationException.class, x::append);
        Due.same("given", x.given(), 0);
        Due.same("size", x.size(), 2000);
        Due.same("last byte", x.out(1999), 65);
    }

    static void anEmptyOutIsAlwaysTaken() {
        Due.same("nothing to nothing", new SortedBlocks().append(), 0);
        SortedBlocks x = Due.fed(Text.stairs(400));
        Due.same("nothing to a full IN", x.append(), 400);
        Due.same("IN", Due.in(x), Text.stairs(400));
    }

    static void whatWasAppendedIsACopy() {
        SortedBlocks x = Due.fed(Text.letters("banana"));
        x.pack(1);
        x.keep(0);
        x.append();
        x.damage(0);
        Due.same("OUT after damage", Due.out(x), BANANA_STREAM);
        x.keep(25);
        x.damage(0);
        x.unpack();
        Due.same("OUT after unpack", Due.out(x), Text.letters("banana"));
        Due.same("IN after unpack", Due.in(x), BANANA_STREAM);
    }
}
