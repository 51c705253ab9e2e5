import java.util.List;

/** Notes answers that are not due, and knows how to feed rows and read them back. */
final class Due {
    interface Call {
        void make();
    }

    private static int asked = 0;
    private static int wrong = 0;

    private Due() {
    }

    static void same(String what, Object got, Object want) {
        asked++;
        if (!got.equals(want)) {
            wrong++;
            System.out.println(what + ": answered " + got + ", due is " + want);
        }
    }

    static void refused(String what, Class<? extends RuntimeException> due, Call call) {
        String got = "nothing thrown";
        try {
            call.make();
        } catch (RuntimeException e) {
            got = e.getClass().getSimpleName();
        }
        same(what, got, due.getSimpleName());
    }

    /** Ends the program, with exit code 1 if an answer was not as due. */
    static void end(String name) {
        System.out.println(name + ": " + asked + " answers, " + wrong + " not as due");
        System.exit(wrong == 0 ? 0 : 1);
    }

    static SortedBlocks fed(List<Integer> bytes) {
        SortedBlocks x = new SortedBlocks();
        feed(x, bytes);
        return x;
    }

    static void feed(SortedBlocks x, List<Integer> bytes) {
        for (int i = 0; i < bytes.size(); i += 8) {
            List<Integer> part = bytes.subList(i, Math.min(i + 8, bytes.size()));
            long number = 0;
            for (int value : part) {
                number = number << 8 | value;
            }
            x.feed(number, part.size());
        }
    }

    static List<Integer> out(SortedBlocks x) {
        Integer[] row = new Integer[x.size()];
        for (int i = 0; i < row.length; i++) {
            row[i] = x.out(i);
        }
        return List.of(row);
    }

    /** The bytes of IN, which can only be seen by packing and unpacking them elsewhere. */
    static List<Integer> in(SortedBlocks x) {
        x.pack(8);
        List<Integer> packed = out(x);
        SortedBlocks other = fed(packed);
        other.unpack();
        return out(other);
    }

    static List<Integer> packed(List<Integer> bytes, int level) {
        SortedBlocks x = fed(bytes);
        x.pack(level);
        return out(x);
    }
}
