import java.util.List;

/** Promise 2: feed. */
public final class Promise02FeedTest {
    private static final long EIGHT = 0xF1F2F3F4F5F6F7F8L;
    private static final List<Integer> EIGHT_BYTES = List.of(0xF1, 0xF2, 0xF3, 0xF4, 0xF5, 0xF6, 0xF7, 0xF8);

    public static void main(String[] args) {
        Due.runAll(Promise02FeedTest.class);
    }

    static void takesOneByteAndRefusesNone() {
        Due.same("feed(7, 1)", new SortedBlocks().feed(7, 1), 1);
        refusesN(0);
    }

    static void takesEightBytesAndRefusesNine() {
        Due.same("feed(.., 8)", new SortedBlocks().feed(EIGHT, 8), 8);
        refusesN(9);
    }

    static void refusesNumbersFarOff() {
        for (int n : new int[] {-1, -8, 16, 257, Integer.MIN_VALUE, Integer.MIN_VALUE + 1, Integer.MAX_VALUE}) {
            refusesN(n);
        }
    }

    private static void refusesN(int n) {
        Due.refused("feed with n " + n, IllegalArgumentException.class, () -> new SortedBlocks().feed(7, n));
        Due.refusedWhole("feed with n " + n, Text.letters("abc"), IllegalArgumentException.class,
                x -> x.feed(7, n));
    }

    static void appendsTheLowestBytesTheHighestFirst() {
        for (int n = 1; n <= 8; n++) {
            SortedBlocks x = new SortedBlocks();
            Due.same("feed " + n, x.feed(EIGHT, n), n);
            Due.same("IN after feed " + n, Due.in(x), EIGHT_BYTES.subList(8 - n, 8));
        }
    }

    static void looksAtNoHigherBytes() {
        SortedBlocks x = new SortedBlocks();
        x.feed(-256L, 1);
        x.feed(0x7FFFFFFFFFFF0102L, 2);
        x.feed(Long.MIN_VALUE, 7);
        Due.same("IN", Due.in(x), List.of(0, 1, 2, 0, 0, 0, 0, 0, 0, 0));
    }

    static void takesTheLeastAndTheGreatestByte() {
        SortedBlocks x = new SortedBlocks();
        x.feed(-1L, 8);
        x.feed(0L, 8);
        x.feed(0x80L, 1);
        x.feed(0x7FL, 1);
        Due.same("IN", Due.in(x), Text.join(Text.many(8, 255), Text.many(8, 0), List.of(128, 127)));
    }

    static void appendsBehindWhatIsThereAndAnswersHowMany() {
        SortedBlocks x = new SortedBlocks();
        int due = 0;
        for (int n = 1; n <= 8; n++) {
            due += n;
            Due.same("feed " + n, x.feed(EIGHT, n), due);
            Due.same("given after feed " + n, x.given(), due);
        }
        Due.same("IN", Due.in(x).subList(0, 6), List.of(0xF8, 0xF7, 0xF8, 0xF6, 0xF7, 0xF8));
    }

    static void takesUpTo400() {
        for (int n = 1; n <= 8; n++) {
            SortedBlocks x = Due.fed(Text.stairs(400 - n));
            Due.same("feed " + n + " up to 400", x.feed(EIGHT, n), 400);
            Due.same("given", x.given(), 400);
            Due.same("IN", Due.in(x), Text.join(Text.stairs(400 - n), EIGHT_BYTES.subList(8 - n, 8)));
        }
    }

    static void refuses401() {
        for (int n = 1; n <= 8; n++) {
            int more = n;
            Due.refusedWhole("feed " + n + " up to 401", Text.stairs(401 - n),
                    UnsupportedOperationException.class, x -> x.feed(EIGHT, more));
        }
    }

    static void refusesAllWhenFull() {
        for (int n = 1; n <= 8; n++) {
            int more = n;
            Due.refusedWhole("feed " + n + " to a full IN", Text.stairs(400),
                    UnsupportedOperationException.class, x -> x.feed(EIGHT, more));
        }
    }

    static void tellsAWrongNFirst() {
        for (int n : new int[] {0, 9, -1, Integer.MIN_VALUE, Integer.MAX_VALUE}) {
            Due.refusedWhole("feed with n " + n + " to a full IN", Text.stairs(400),
                    IllegalArgumentException.class, x -> x.feed(EIGHT, n));
        }
        Due.refusedWhole("feed with n 9 where 8 are too many", Text.stairs(395),
                IllegalArgumentException.class, x -> x.feed(EIGHT, 9));
    }

    static void takesLessAfterARefusal() {
        SortedBlocks x = Due.fed(Text.stairs(396));
        Due.refused("feed 5", UnsupportedOperationException.class, () -> x.feed(EIGHT, 5));
        Due.same("feed 4", x.feed(EIGHT, 4), 400);
        x.keep(399);
        Due.same("feed 1 after keep(399)", x.feed(EIGHT, 1), 400);
    }

    static void changesOnlyIn() {
        Due.changesOnlyIn("feed", Text.letters("abc"), Text.letters("abcde"), x -> x.feed(0x6465, 2));
        Due.changesOnlyIn("feed to an empty IN", List.of(), Text.letters("de"), x -> x.feed(0x6465, 2));
    }
}
