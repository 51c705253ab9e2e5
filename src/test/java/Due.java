import java.lang.reflect.InvocationTargetException;
import java.lang.reflect.Method;
import java.lang.reflect.Modifier;
import java.util.ArrayList;
import java.util.Arrays;
import java.util.Comparator;
import java.util.List;
import java.util.function.Consumer;

/** Runs the tests of a class, notes answers that are not due, and knows how to feed rows and read them back. */
final class Due {
    interface Call {
        void make();
    }

    private static String test = "";
    private static int asked = 0;
    private static int wrong = 0;

    private Due() {
    }

    /** Runs every static method of a class that is not private and takes nothing: each is a test. */
    static void runAll(Class<?> tests) {
        Method[] methods = tests.getDeclaredMethods();
        Arrays.sort(methods, Comparator.comparing(Method::getName));
        for (Method method : methods) {
            int modifiers = method.getModifiers();
            if (Modifier.isStatic(modifiers) && !Modifier.isPrivate(modifiers)
                    && method.getParameterCount() == 0) {
                run(method);
            }
        }
        end(tests.getName());
    }

    private static void run(Method method) {
        test = method.getName() + ": ";
        int before = asked;
        try {
            method.invoke(null);
        } catch (InvocationTargetException e) {
            note("threw " + e.getCause());
        } catch (IllegalAccessException e) {
            note("cannot be run");
        }
        if (asked == before) {
            note("asks nothing");
        }
    }

    private static void note(String fault) {
        wrong++;
        System.out.println(test + fault);
    }

    static void same(String what, Object got, Object want) {
        asked++;
        if (!got.equals(want)) {
            note(what + " answered " + got + ", due is " + want);
        }
    }

    static void refused(String what, Class<? extends RuntimeException> due, Call call) {
        String got = "nothing thrown";
        try {
            call.make();
        } catch (RuntimeException e) {
            got = e.getClass().getSimpleName();
        }
        same(what, got, due.getSimpleName());
    }

    /** A call on a busy object with these bytes in IN throws, and leaves all as it was. */
    static void refusedWhole(String what, List<Integer> in, Class<? extends RuntimeException> due,
            Consumer<SortedBlocks> call) {
        SortedBlocks x = busy(in);
        String before = Seen.of(x);
        refused(what, due, () -> call.accept(x));
        same(what + ", and then all that can be asked", Seen.of(x), before);
        same(what + ", and then IN", in(x), in);
    }

    /** A call on a busy object with these bytes in IN changes IN to others, and nothing else. */
    static void changesOnlyIn(String what, List<Integer> in, List<Integer> then, Consumer<SortedBlocks> call) {
        SortedBlocks x = busy(in);
        String before = Seen.butGiven(x);
        call.accept(x);
        same(what + ", and then all but IN", Seen.butGiven(x), before);
        same(what + ", and then given", x.given(), then.size());
        same(what + ", and then IN", in(x), then);
    }

    /** Ends the program, with exit code 1 if an answer was not as due. */
    static void end(String name) {
        System.out.println(name + ": " + asked + " answers, " + wrong + " not as due");
        System.exit(wrong == 0 && asked > 0 ? 0 : 1);
    }

    static SortedBlocks fed(List<Integer> bytes) {
        SortedBlocks x = new SortedBlocks();
        feed(x, bytes);
        return x;
    }

    /** An object with these bytes in IN, a stream in OUT, a block that is told of, and a fault at bit 16. */
    static SortedBlocks busy(List<Integer> in) {
        SortedBlocks x = fed(List.of(83, 66, 9));
        x.unpack();
        x.keep(0);
        feed(x, Text.letters("banana"));
        x.pack(1);
        x.keep(0);
        feed(x, in);
        return x;
    }

    static void feed(SortedBlocks x, List<Integer> bytes) {
        for (int i = 0; i < bytes.size(); i += 8) {
            List<Integer> part = bytes.subList(i, Math.min(i + 8, bytes.size()));
            long number = 0;
            for (int value : part) {
                number = number << 8 | value;
            }
            x.feed(number, part.size());
        }
    }

    static List<Integer> out(SortedBlocks x) {
        List<Integer> row = new ArrayList<>();
        int size = x.size();
        for (int i = 0; i < size; i++) {
            row.add(x.out(i));
        }
        return row;
    }

    /** The bytes of IN, which can only be seen by packing and unpacking them elsewhere. */
    static List<Integer> in(SortedBlocks x) {
        x.pack(8);
        Model reader = new Model();
        reader.in = out(x);
        return reader.unpack() < 0 ? List.of() : reader.out;
    }

    /** What bytes are packed to; a new object is asked for each part, since one has few calls. */
    static List<Integer> packed(List<Integer> bytes, int level) {
        List<Integer> row = new ArrayList<>();
        int size = 1;
        while (row.size() < size) {
            SortedBlocks x = fed(bytes);
            size = x.pack(level);
            for (int k = 0; k < 400 && row.size() < size; k++) {
                row.add(x.out(row.size()));
            }
        }
        return row;
    }

    /** The last block of these bytes, as it was packed. */
    static SortedBlocks afterPack(List<Integer> bytes, int level) {
        SortedBlocks x = fed(bytes);
        x.pack(level);
        return x;
    }

    static List<Integer> column(SortedBlocks x) {
        List<Integer> column = new ArrayList<>();
        int count = x.block(1);
        for (int i = 0; i < count; i++) {
            column.add(x.last(i));
        }
        return column;
    }

    static List<Integer> symbols(SortedBlocks x) {
        List<Integer> symbols = new ArrayList<>();
        int count = x.block(2);
        for (int i = 0; i < count; i++) {
            symbols.add(x.symbol(i));
        }
        return symbols;
    }

    static List<Integer> lengths(SortedBlocks x, int table) {
        List<Integer> lengths = new ArrayList<>();
        for (int s = 0; s < 300 && x.length(table, s) != SortedBlocks.NONE; s++) {
            lengths.add(x.length(table, s));
        }
        return lengths;
    }

    static List<Integer> picks(SortedBlocks x) {
        List<Integer> picks = new ArrayList<>();
        for (int g = 0; g < 100 && x.table(g) != SortedBlocks.NONE; g++) {
            picks.add(x.table(g));
        }
        return picks;
    }

    /** Nothing at all is told of a block. */
    static void toldNothing(String when, SortedBlocks x) {
        same(when + ": blocks", x.blocks(), 0);
        for (int what = -1; what <= 5; what++) {
            same(when + ": block " + what, x.block(what), SortedBlocks.NONE);
        }
        same(when + ": last", x.last(0), SortedBlocks.NONE);
        same(when + ": symbol", x.symbol(0), SortedBlocks.NONE);
        same(when + ": length", x.length(0, 0), SortedBlocks.NONE);
        same(when + ": table", x.table(0), SortedBlocks.NONE);
    }
}
