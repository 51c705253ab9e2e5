import java.util.ArrayList;
import java.util.Arrays;
import java.util.Collections;
import java.util.List;
import java.util.Random;
import java.util.TreeSet;
import java.util.function.IntSupplier;

/**
 * Runs of calls, made by a random source that always begins with the same numbers, on the program
 * and on the model; every answer must be the same. At the end each kind of answer must have been seen.
 */
public final class ModelTest {
    private static final int RUNS = 4000;
    private static final int MOST_CALLS = 512;

    private static int wrong = 0;
    private static int[] seenFaults = new int[16];
    private static int seenFull = 0;
    private static int seenRescuedSome = 0;
    private static int seenManyStreams = 0;
    private static int longest = 0;

    private final int run;
    private final Random random;
    private final SortedBlocks x = new SortedBlocks();
    private final Model m = new Model();
    private int calls = 0;

    private ModelTest(int run) {
        this.run = run;
        this.random = new Random(run);
    }

    public static void main(String[] args) {
        for (int run = 0; run < RUNS && wrong < 20; run++) {
            new ModelTest(run).go();
        }
        for (int fault = SortedBlocks.TOTAL; fault <= SortedBlocks.SHORT; fault++) {
            expectSeen("fault " + fault, seenFaults[-fault]);
        }
        expectSeen("too many bytes", seenFull);
        expectSeen("blocks rescued", seenRescuedSome);
        expectSeen("several streams", seenManyStreams);
        System.out.println(RUNS + " runs; faults seen, from SHORT on: "
                + Arrays.toString(Arrays.copyOfRange(seenFaults, 2, 16)) + "; full " + seenFull
                + "; longest packed " + longest + "; wrong " + wrong);
        if (wrong != 0) {
            System.exit(1);
        }
    }

    private static void expectSeen(String what, int times) {
        if (times == 0) {
            wrong++;
            System.out.println("no run has seen: " + what);
        }
    }

    private void go() {
        switch (run % 4) {
            case 0 -> packAndUnpack();
            case 1 -> readMadeStream();
            case 2 -> packAndAskAll();
            default -> mixCalls();
        }
    }

    // ---- the kinds of runs ----

    private void packAndUnpack() {
        feedAll(someBytes(random.nextInt(401)));
        pack(1 + random.nextInt(8));
        askMuch();
        keep(0);
        append();
        for (int k = 0; k < 6; k++) {
            unpack();
            ask(5);
            rescue();
            ask(5);
            if (random.nextInt(3) == 0) {
                keep(random.nextInt(m.in.size() + 1));
            } else {
                damage(random.nextInt(8 * m.in.size() + 1));
            }
        }
    }

    private void packAndAskAll() {
        feedAll(someBytes(random.nextInt(100)));
        pack(1 + random.nextInt(8));
        for (int i = 0; calls < MOST_CALLS - 40 && i <= m.out.size(); i++) {
            int o = i;
            compare("out(" + o + ")", () -> x.out(o), () -> m.out(o));
        }
        ask(30);
    }

    private void readMadeStream() {
        int level = 1 + random.nextInt(8);
        String text = Model.number(0x5342, 16) + Model.number(level, 8);
        int total = 0;
        for (int n = random.nextInt(3); n >= 0; n--) {
            Model.Told b = madeBlock(level);
            String more = Model.BLOCK + text(b);
            if (text.length() + more.length() < 3000) {
                text += more;
                total = Model.turn(total) ^ b.check;
            }
        }
        text += Model.END + Model.number(random.nextInt(20) == 0 ? total ^ 1 : total, 16);
        while (text.length() % 8 != 0) {
            text += random.nextInt(2);
        }
        if (random.nextInt(4) == 0) {
            text += text;
        }
        feedAll(Model.bytesOf(text));
        unpack();
        askMuch();
        rescue();
        ask(20);
        for (int k = 0; k < 12; k++) {
            int bit = random.nextInt(8 * m.in.size());
            damage(bit);
            unpack();
            ask(3);
            rescue();
            ask(2);
            damage(bit);
        }
        keep(random.nextInt(m.in.size() + 1));
        unpack();
        append();
        unpack();
        ask(5);
    }

    private void mixCalls() {
        while (calls < MOST_CALLS - 120) {
            switch (random.nextInt(9)) {
                case 0 -> feed(random.nextLong(), random.nextInt(11) - 1);
                case 1 -> feedAll(someBytes(random.nextInt(40)));
                case 2 -> keep(random.nextInt(m.in.size() + 3) - 1);
                case 3 -> keep(0);
                case 4 -> damage(random.nextInt(8 * m.in.size() + 3) - 1);
                case 5 -> append();
                case 6 -> pack(random.nextInt(10));
                case 7 -> unpack();
                default -> rescue();
            }
            ask(3);
        }
    }

    // ---- what is fed ----

    private List<Integer> someBytes(int n) {
        List<Integer> row = new ArrayList<>();
        int kinds = new int[] {1, 2, 3, 8, 40, 256}[random.nextInt(6)];
        int base = random.nextInt(256);
        int stride = 1 + random.nextInt(255);
        int longestRun = new int[] {1, 1, 4, 6, 300}[random.nextInt(5)];
        int period = random.nextInt(3) == 0 ? 1 + random.nextInt(9) : 0;
        while (row.size() < n) {
            int value = base + stride * random.nextInt(kinds) & 255;
            if (period > 0 && row.size() >= period) {
                row.add(row.get(row.size() - period));
            } else {
                row.addAll(Collections.nCopies(1 + random.nextInt(longestRun), value));
            }
        }
        return row.subList(0, n);
    }

    /** A block that can mostly be read, but not one that pack would write. */
    private Model.Told madeBlock(int level) {
        Model.Told b = new Model.Told();
        int most = Math.max(1, random.nextInt(8 * level + 1) + (random.nextInt(10) == 0 ? 1 : 0));
        b.shortened = new ArrayList<>();
        if (random.nextInt(3) == 0) {
            int value = random.nextInt(3);
            while (b.shortened.size() + 5 <= most) {
                b.shortened.addAll(List.of(value, value, value, value, 255 - random.nextInt(120)));
            }
        }
        b.shortened.addAll(someBytes(most - b.shortened.size()));
        Model.sort(b);
        if (random.nextInt(4) == 0) {
            Collections.shuffle(b.column, random);
            b.origin = random.nextInt(Math.min(64, b.column.size() + 1));
        }
        b.check = random.nextInt(12) == 0 ? random.nextInt(65536) : checkOfRead(b);
        makeSymbols(b);
        makeTables(b);
        return b;
    }

    private static int checkOfRead(Model.Told b) {
        if (b.origin >= b.column.size()) {
            return 0;
        }
        b.shortened = new ArrayList<>();
        Model.unsort(b);
        try {
            return Model.checkOf(Model.lengthen(b, 0));
        } catch (Model.Fault f) {
            return 0;
        }
    }

    private TreeSet<Integer> kinds;

    private void makeSymbols(Model.Told b) {
        kinds = new TreeSet<>(b.column);
        for (int k = random.nextInt(4) == 0 ? random.nextInt(100) : 0; k > 0; k--) {
            kinds.add(random.nextInt(256));
        }
        b.kinds = kinds.size();
        List<Integer> list = new ArrayList<>(kinds);
        int place = 0;
        while (place < b.column.size()) {
            Integer value = b.column.get(place);
            int p = list.indexOf(value);
            int n = 0;
            while (p == 0 && place + n < b.column.size() && b.column.get(place + n).equals(value)) {
                n++;
            }
            for (int r = n; r > 0; r = (r - 1) / 2) {
                b.symbols.add((r + 1) % 2);
            }
            if (p > 0) {
                b.symbols.add(p + 1);
                list.add(0, list.remove(p));
                n = 1;
            }
            place += n;
        }
        b.symbols.add(b.kinds + 1);
    }

    private void makeTables(Model.Told b) {
        int extra = random.nextInt(3) == 0 ? random.nextInt(60) : 0;
        int groups = Math.min(63, (b.symbols.size() + 7) / 8 + extra);
        groups -= random.nextInt(20) == 0 ? 1 : 0;
        int tables = 1 + random.nextInt(4);
        for (int g = 0; g < groups; g++) {
            b.picks.add(random.nextInt(tables));
        }
        for (int t = 0; t < tables; t++) {
            int[] lengths = new int[b.kinds + 2];
            int kind = random.nextInt(8);
            for (int s = 0; s < lengths.length; s++) {
                lengths[s] = kind == 0 ? 1 + random.nextInt(12) : kind == 1 ? 10 + random.nextInt(3)
                        : kind == 2 ? 12 : 1 + random.nextInt(20);
            }
            lengths = kind > 2 ? Model.lengths(lengths) : lengths;
            for (int s = 0; s < lengths.length; s++) {
                lengths[s] = Math.min(lengths[s], 12);
            }
            b.lengths.add(lengths);
        }
    }

    private String text(Model.Told b) {
        String text = Model.number(b.check, 16) + Model.number(b.origin, 6) + Model.writeMap(kinds)
                + Model.number(b.lengths.size(), 3) + Model.number(b.picks.size(), 6)
                + Model.writePicks(b.picks, b.lengths.size());
        for (int[] lengths : b.lengths) {
            String table = Model.writeLengths(lengths);
            // a length may also go up and down again
            boolean detour = random.nextInt(9) == 0 && lengths[0] < 12;
            text += table.substring(0, 5) + (detour ? "1011" : "") + table.substring(5);
        }
        for (int i = 0; i < b.symbols.size() && i / 8 < b.picks.size(); i++) {
            text += Model.codes(b.lengths.get(b.picks.get(i / 8)))[b.symbols.get(i)];
        }
        return text;
    }

    // ---- the calls, on both ----

    private void feedAll(List<Integer> row) {
        int i = 0;
        while (i < row.size()) {
            int n = Math.min(8, row.size() - i);
            long bytes = n < 8 ? random.nextLong() << 8 * n : 0;
            for (int k = 0; k < n; k++) {
                bytes |= (long) row.get(i + k) << 8 * (n - 1 - k);
            }
            feed(bytes, n);
            i += n;
        }
    }

    private void feed(long bytes, int n) {
        compare("feed(" + bytes + ", " + n + ")", () -> x.feed(bytes, n), () -> m.feed(bytes, n));
    }

    private void keep(int n) {
        compare("keep(" + n + ")", () -> {
            x.keep(n);
            return 0;
        }, () -> {
            m.keep(n);
            return 0;
        });
    }

    private void damage(int bit) {
        compare("damage(" + bit + ")", () -> {
            x.damage(bit);
            return 0;
        }, () -> {
            m.damage(bit);
            return 0;
        });
    }

    private void append() {
        compare("append()", x::append, m::append);
    }

    private void pack(int level) {
        compare("pack(" + level + ")", () -> x.pack(level), () -> m.pack(level));
        longest = Math.max(longest, m.out.size());
    }

    private void unpack() {
        String answer = compare("unpack()", x::unpack, m::unpack);
        compare("at()", x::at, () -> m.at);
        if (answer.startsWith("-")) {
            seenFaults[-Integer.parseInt(answer)]++;
        } else if (answer.startsWith("java")) {
            seenFull++;
        } else if (m.blocks > 3) {
            seenManyStreams++;
        }
    }

    private void rescue() {
        String answer = compare("rescue()", x::rescue, m::rescue);
        seenRescuedSome += answer.equals("0") ? 0 : 1;
    }

    private void askMuch() {
        ask(60);
        for (int what = -1; what < 6; what++) {
            int w = what;
            compare("block(" + w + ")", () -> x.block(w), () -> m.block(w));
        }
    }

    private void ask(int times) {
        compare("given()", x::given, () -> m.in.size());
        compare("size()", x::size, () -> m.out.size());
        compare("blocks()", x::blocks, () -> m.blocks);
        compare("at()", x::at, () -> m.at);
        for (int k = 0; k < times; k++) {
            int i = random.nextInt(70) - 1;
            int t = random.nextInt(6) - 1;
            int o = random.nextInt(m.out.size() + 2) - 1;
            switch (random.nextInt(6)) {
                case 0 -> compare("out(" + o + ")", () -> x.out(o), () -> m.out(o));
                case 1 -> compare("block(" + t + ")", () -> x.block(t), () -> m.block(t));
                case 2 -> compare("last(" + i + ")", () -> x.last(i), () -> m.last(i));
                case 3 -> compare("symbol(" + i + ")", () -> x.symbol(i), () -> m.symbol(i));
                case 4 -> compare("length(" + t + ", " + i + ")", () -> x.length(t, i), () -> m.length(t, i));
                default -> compare("table(" + i + ")", () -> x.table(i), () -> m.table(i));
            }
        }
    }

    private String compare(String call, IntSupplier program, IntSupplier model) {
        calls++;
        String got = answer(program);
        String want = answer(model);
        if (calls > MOST_CALLS) {
            throw new IllegalStateException("run " + run + " has too many calls");
        }
        if (!got.equals(want)) {
            wrong++;
            System.out.println("run " + run + ", call " + calls + ": " + call + " answered " + got
                    + ", the model says " + want);
        }
        return want;
    }

    private static String answer(IntSupplier call) {
        try {
            return Integer.toString(call.getAsInt());
        } catch (RuntimeException e) {
            return e.getClass().getName();
        }
    }
}
