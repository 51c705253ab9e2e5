import java.util.ArrayList;
import java.util.Arrays;
import java.util.Collections;
import java.util.Comparator;
import java.util.HashMap;
import java.util.List;
import java.util.Map;
import java.util.TreeSet;

/**
 * The document once more, in the slowest and plainest words, for comparing: bits are texts of 0 and
 * 1, every list is made anew, and a fault is an exception. It shares no line with the program.
 */
final class Model {
    static final String BLOCK = number(0x314159, 24);
    static final String END = number(0x177245, 24);

    /** What is told of a block. */
    static final class Told {
        int check;
        int origin;
        int kinds;
        List<Integer> shortened = new ArrayList<>();
        List<Integer> column = new ArrayList<>();
        List<Integer> symbols = new ArrayList<>();
        List<int[]> lengths = new ArrayList<>();
        List<Integer> picks = new ArrayList<>();
    }

    static final class Fault extends RuntimeException {
        private static final long serialVersionUID = 1L;
        final int kind;
        final int at;

        Fault(int kind, int at) {
            this.kind = kind;
            this.at = at;
        }
    }

    List<Integer> in = new ArrayList<>();
    List<Integer> out = new ArrayList<>();
    int at = -1;
    int blocks = 0;
    Told told = null;
    /** The blocks of the latest unpack without a fault, which the program does not tell. */
    List<Told> all = new ArrayList<>();
    /** How many bits the latest pack wrote before it filled the last byte. */
    int packedBits = 0;

    private String bits;
    private int place;

    // ---- the calls ----

    int feed(long bytes, int n) {
        if (n < 1 || n > 8) {
            throw new IllegalArgumentException();
        }
        if (in.size() + n > 400) {
            throw new UnsupportedOperationException();
        }
        String text = String.format("%016x", bytes);
        for (int i = 8 - n; i < 8; i++) {
            in.add(Integer.parseInt(text.substring(2 * i, 2 * i + 2), 16));
        }
        return in.size();
    }

    void keep(int n) {
        if (n < 0 || n > in.size()) {
            throw new IllegalArgumentException();
        }
        in = new ArrayList<>(in.subList(0, n));
    }

    void damage(int bit) {
        if (bit < 0 || bit >= 8 * in.size()) {
            throw new IndexOutOfBoundsException();
        }
        StringBuilder text = new StringBuilder(bitsOf(in));
        text.setCharAt(bit, text.charAt(bit) == '0' ? '1' : '0');
        in = bytesOf(text.toString());
    }

    int append() {
        if (in.size() + out.size() > 400) {
            throw new UnsupportedOperationException();
        }
        in.addAll(out);
        return in.size();
    }

    int pack(int level) {
        if (level < 1 || level > 8) {
            throw new IllegalArgumentException();
        }
        String text = number(83, 8) + number(66, 8) + number(level, 8);
        List<Integer> rest = in;
        int total = 0;
        blocks = 0;
        while (!rest.isEmpty()) {
            int n = rest.size();
            while (shorten(rest.subList(0, n)).size() > 8 * level) {
                n--;
            }
            told = blockOf(rest.subList(0, n));
            text += BLOCK + write(told);
            total = turn(total) ^ told.check;
            rest = rest.subList(n, rest.size());
            blocks++;
        }
        text += END + number(total, 16);
        packedBits = text.length();
        while (text.length() % 8 != 0) {
            text += "0";
        }
        out = bytesOf(text);
        return out.size();
    }

    int unpack() {
        at = -1;
        bits = bitsOf(in);
        place = 0;
        List<Integer> fresh = new ArrayList<>();
        List<Told> read = new ArrayList<>();
        try {
            do {
                readStream(fresh, read);
                while (place % 8 != 0) {
                    place++;
                }
            } while (place < bits.length());
        } catch (Fault f) {
            at = f.at;
            return f.kind;
        }
        out = fresh;
        all = read;
        blocks = read.size();
        told = read.isEmpty() ? null : read.get(read.size() - 1);
        return out.size();
    }

    int rescue() {
        bits = bitsOf(in);
        List<Integer> fresh = new ArrayList<>();
        blocks = 0;
        int from = bits.indexOf(BLOCK);
        while (from >= 0) {
            place = from + 24;
            try {
                List<Integer> more = new ArrayList<>(fresh);
                told = readBlock(8, more);
                fresh = more;
                blocks++;
                from = bits.indexOf(BLOCK, place);
            } catch (Fault | IllegalStateException f) {
                from = bits.indexOf(BLOCK, from + 1);
            }
        }
        out = fresh;
        return blocks;
    }

    int out(int i) {
        if (i < 0 || i >= out.size()) {
            throw new IndexOutOfBoundsException();
        }
        return out.get(i);
    }

    int block(int what) {
        if (blocks == 0) {
            return -1;
        }
        return switch (what) {
            case 0 -> told.origin;
            case 1 -> told.column.size();
            case 2 -> told.symbols.size();
            case 3 -> told.lengths.size();
            case 4 -> told.check;
            default -> -1;
        };
    }

    int last(int i) {
        return blocks > 0 ? itemOrNone(told.column, i) : -1;
    }

    int symbol(int i) {
        return blocks > 0 ? itemOrNone(told.symbols, i) : -1;
    }

    int length(int table, int symbol) {
        if (blocks == 0 || table < 0 || table >= told.lengths.size()) {
            return -1;
        }
        return symbol < 0 || symbol > told.kinds + 1 ? -1 : told.lengths.get(table)[symbol];
    }

    int table(int g) {
        return blocks > 0 ? itemOrNone(told.picks, g) : -1;
    }

    private static int itemOrNone(List<Integer> row, int i) {
        return i >= 0 && i < row.size() ? row.get(i) : -1;
    }

    // ---- bits and checks ----

    static String number(int value, int n) {
        String text = "0".repeat(32) + Integer.toBinaryString(value);
        return text.substring(text.length() - n);
    }

    static String bitsOf(List<Integer> row) {
        StringBuilder text = new StringBuilder();
        for (int value : row) {
            text.append(number(value, 8));
        }
        return text.toString();
    }

    static List<Integer> bytesOf(String text) {
        List<Integer> row = new ArrayList<>();
        for (int i = 0; i + 8 <= text.length(); i += 8) {
            row.add(Integer.parseInt(text.substring(i, i + 8), 2));
        }
        return row;
    }

    static int checkOf(List<Integer> row) {
        int check = 65535;
        for (char bit : bitsOf(row).toCharArray()) {
            boolean odd = check / 32768 != bit - '0';
            check = check * 2 % 65536 ^ (odd ? 0x1021 : 0);
        }
        return check;
    }

    static int turn(int total) {
        return total * 2 % 65536 + total / 32768;
    }

    // ---- packing ----

    static List<Integer> shorten(List<Integer> row) {
        List<Integer> form = new ArrayList<>();
        int i = 0;
        while (i < row.size()) {
            int n = 1;
            while (n < 255 && i + n < row.size() && row.get(i + n).equals(row.get(i))) {
                n++;
            }
            form.addAll(Collections.nCopies(Math.min(n, 4), row.get(i)));
            if (n >= 4) {
                form.add(n - 4);
            }
            i += n;
        }
        return form;
    }

    static Told blockOf(List<Integer> bytes) {
        Told b = blockOfForm(shorten(bytes));
        b.check = checkOf(bytes);
        return b;
    }

    static Told blockOfForm(List<Integer> form) {
        Told b = new Told();
        b.shortened = form;
        sort(b);
        symbols(b);
        pick(b);
        return b;
    }

    static void sort(Told b) {
        int n = b.shortened.size();
        List<int[]> rotations = new ArrayList<>();
        for (int i = 0; i < n; i++) {
            List<Integer> rotation = new ArrayList<>(b.shortened);
            Collections.rotate(rotation, -i);
            int[] keyed = new int[n + 1];
            for (int k = 0; k < n; k++) {
                keyed[k] = rotation.get(k);
            }
            keyed[n] = i;
            rotations.add(keyed);
        }
        rotations.sort(Arrays::compare);
        for (int p = 0; p < n; p++) {
            b.column.add(rotations.get(p)[n - 1]);
            if (rotations.get(p)[n] == 0) {
                b.origin = p;
            }
        }
    }

    private static void symbols(Told b) {
        List<Integer> list = new ArrayList<>(new TreeSet<>(b.shortened));
        b.kinds = list.size();
        int run = 0;
        for (Integer value : b.column) {
            int p = list.indexOf(value);
            list.remove(value);
            list.add(0, value);
            if (p == 0) {
                run++;
            } else {
                b.symbols.addAll(digits(run));
                run = 0;
                b.symbols.add(p + 1);
            }
        }
        b.symbols.addAll(digits(run));
        b.symbols.add(b.kinds + 1);
    }

    /** r with digits 1 and 2 has the same places as r + 1 with 0 and 1, without its highest 1. */
    private static List<Integer> digits(int run) {
        List<Integer> digits = new ArrayList<>();
        for (char c : Integer.toBinaryString(run + 1).substring(1).toCharArray()) {
            digits.add(0, c - '0');
        }
        return digits;
    }

    private static final class Tree {
        final int weight;
        final int age;
        final List<Integer> symbols = new ArrayList<>();

        Tree(int weight, int age) {
            this.weight = weight;
            this.age = age;
        }
    }

    static int[] lengths(int[] weights) {
        int[] lengths = new int[weights.length];
        List<Tree> trees = new ArrayList<>();
        int age = 0;
        for (int weight : weights) {
            Tree tree = new Tree(weight, age);
            tree.symbols.add(age++);
            trees.add(tree);
        }
        while (trees.size() > 1) {
            trees.sort(Comparator.<Tree>comparingInt(t -> t.weight).thenComparingInt(t -> t.age));
            Tree one = trees.remove(0);
            Tree other = trees.remove(0);
            Tree both = new Tree(one.weight + other.weight, age++);
            both.symbols.addAll(one.symbols);
            both.symbols.addAll(other.symbols);
            both.symbols.forEach(s -> lengths[s]++);
            trees.add(both);
        }
        return lengths;
    }

    private static void pick(Told b) {
        int groups = (b.symbols.size() + 7) / 8;
        int tables = groups > 4 ? 3 : 2;
        for (int g = 0; g < groups; g++) {
            b.picks.add(g % tables);
        }
        for (int round = 0; round < 3; round++) {
            b.lengths.clear();
            for (int t = 0; t < tables; t++) {
                int[] weights = new int[b.kinds + 2];
                for (int i = 0; i < b.symbols.size(); i++) {
                    if (b.picks.get(i / 8) == t) {
                        weights[b.symbols.get(i)]++;
                    }
                }
                for (int s = 0; s < weights.length; s++) {
                    weights[s] = weights[s] == 0 ? 1 : weights[s];
                }
                b.lengths.add(lengths(weights));
            }
            for (int g = 0; g < groups; g++) {
                int fewest = Integer.MAX_VALUE;
                for (int t = 0; t < tables; t++) {
                    int many = 0;
                    for (int i = 8 * g; i < Math.min(8 * g + 8, b.symbols.size()); i++) {
                        many += b.lengths.get(t)[b.symbols.get(i)];
                    }
                    if (many < fewest) {
                        fewest = many;
                        b.picks.set(g, t);
                    }
                }
            }
        }
    }

    static String[] codes(int[] lengths) {
        String[] codes = new String[lengths.length];
        String before = null;
        for (int length = 1; length <= 31; length++) {
            for (int s = 0; s < lengths.length; s++) {
                if (lengths[s] == length) {
                    String code = before == null ? "" : plusOne(before);
                    codes[s] = code + "0".repeat(length - code.length());
                    before = codes[s];
                }
            }
        }
        return codes;
    }

    private static String plusOne(String code) {
        int zero = code.lastIndexOf('0');
        if (zero < 0) {
            return "0".repeat(code.length());
        }
        return code.substring(0, zero) + "1" + "0".repeat(code.length() - zero - 1);
    }

    /** What stands behind the mark of a block. */
    static String write(Told b) {
        StringBuilder text = new StringBuilder(number(b.check, 16) + number(b.origin, 6));
        text.append(writeMap(new TreeSet<>(b.shortened)));
        text.append(number(b.lengths.size(), 3)).append(number(b.picks.size(), 6));
        text.append(writePicks(b.picks, b.lengths.size()));
        for (int[] lengths : b.lengths) {
            text.append(writeLengths(lengths));
        }
        for (int i = 0; i < b.symbols.size(); i++) {
            text.append(codes(b.lengths.get(b.picks.get(i / 8)))[b.symbols.get(i)]);
        }
        return text.toString();
    }

    static String writeMap(TreeSet<Integer> kinds) {
        String first = "";
        String others = "";
        for (int i = 0; i < 16; i++) {
            String map = "";
            for (int k = 0; k < 16; k++) {
                map += kinds.contains(16 * i + k) ? "1" : "0";
            }
            first += map.contains("1") ? "1" : "0";
            others += map.contains("1") ? map : "";
        }
        return first + others;
    }

    static String writePicks(List<Integer> picks, int tables) {
        String text = "";
        List<Integer> list = new ArrayList<>(List.of(0, 1, 2, 3).subList(0, tables));
        for (Integer pick : picks) {
            text += "1".repeat(list.indexOf(pick)) + "0";
            list.remove(pick);
            list.add(0, pick);
        }
        return text;
    }

    static String writeLengths(int[] lengths) {
        String text = number(lengths[0], 5);
        int written = lengths[0];
        for (int length : lengths) {
            text += "10".repeat(Math.max(0, length - written));
            text += "11".repeat(Math.max(0, written - length)) + "0";
            written = length;
        }
        return text;
    }

    // ---- reading ----

    private int take(int n) {
        if (place + n > bits.length()) {
            throw new Fault(SortedBlocks.SHORT, place);
        }
        place += n;
        return Integer.parseInt(bits.substring(place - n, place), 2);
    }

    private char bitOf(int numberAt) {
        if (place >= bits.length()) {
            throw new Fault(SortedBlocks.SHORT, numberAt);
        }
        place++;
        return bits.charAt(place - 1);
    }

    private void readStream(List<Integer> fresh, List<Told> read) {
        int start = place;
        if (take(16) != 0x5342) {
            throw new Fault(SortedBlocks.HEAD, start);
        }
        int level = take(8);
        if (level < 1 || level > 8) {
            throw new Fault(SortedBlocks.HEAD, place - 8);
        }
        int total = 0;
        while (true) {
            int mark = take(24);
            if (mark == 0x177245) {
                break;
            }
            if (mark != 0x314159) {
                throw new Fault(SortedBlocks.MARK, place - 24);
            }
            read.add(readBlock(level, fresh));
            total = turn(total) ^ read.get(read.size() - 1).check;
        }
        if (take(16) != total) {
            throw new Fault(SortedBlocks.TOTAL, place - 16);
        }
    }

    private Told readBlock(int level, List<Integer> fresh) {
        Told b = new Told();
        int checkAt = place;
        b.check = take(16);
        b.origin = take(6);
        List<Integer> kinds = readMap();
        b.kinds = kinds.size();
        int tables = take(3);
        if (tables < 1 || tables > 4) {
            throw new Fault(SortedBlocks.TABLES, place - 3);
        }
        int groups = take(6);
        if (groups == 0) {
            throw new Fault(SortedBlocks.GROUPS, place - 6);
        }
        readPicks(b, tables, groups);
        for (int t = 0; t < tables; t++) {
            b.lengths.add(readLengths(b.kinds + 2));
        }
        int endAt = readSymbols(b, kinds, level);
        if (b.origin >= b.column.size()) {
            throw new Fault(SortedBlocks.ORIGIN, endAt);
        }
        unsort(b);
        List<Integer> bytes = lengthen(b, endAt);
        if (fresh.size() + bytes.size() > 2000) {
            throw new IllegalStateException();
        }
        if (checkOf(bytes) != b.check) {
            throw new Fault(SortedBlocks.CHECK, checkAt);
        }
        fresh.addAll(bytes);
        return b;
    }

    private List<Integer> readMap() {
        List<Integer> kinds = new ArrayList<>();
        String first = number(take(16), 16);
        for (int i = 0; i < 16; i++) {
            if (first.charAt(i) == '1') {
                String map = number(take(16), 16);
                for (int k = 0; k < 16; k++) {
                    if (map.charAt(k) == '1') {
                        kinds.add(16 * i + k);
                    }
                }
            }
        }
        if (kinds.isEmpty()) {
            throw new Fault(SortedBlocks.MAP, place - 16);
        }
        return kinds;
    }

    private void readPicks(Told b, int tables, int groups) {
        List<Integer> list = new ArrayList<>(List.of(0, 1, 2, 3).subList(0, tables));
        for (int g = 0; g < groups; g++) {
            int start = place;
            int ones = 0;
            while (bitOf(start) == '1') {
                ones++;
                if (ones == tables) {
                    throw new Fault(SortedBlocks.PICK, start);
                }
            }
            Integer pick = list.remove(ones);
            list.add(0, pick);
            b.picks.add(pick);
        }
    }

    private int[] readLengths(int n) {
        int[] lengths = new int[n];
        int start = place;
        int length = take(5);
        for (int s = 0; s < n; s++) {
            while (true) {
                if (length < 1 || length > 12) {
                    throw new Fault(SortedBlocks.LENGTH, start);
                }
                start = place;
                if (bitOf(start) == '0') {
                    break;
                }
                length += bitOf(start) == '0' ? 1 : -1;
            }
            lengths[s] = length;
        }
        return lengths;
    }

    /** Answers the bit at which the END begins. */
    private int readSymbols(Told b, List<Integer> kinds, int level) {
        List<Integer> list = new ArrayList<>(kinds);
        List<Map<String, Integer>> tables = new ArrayList<>();
        for (int[] lengths : b.lengths) {
            Map<String, Integer> table = new HashMap<>();
            String[] codes = codes(lengths);
            for (int s = 0; s < codes.length; s++) {
                table.putIfAbsent(codes[s], s);
            }
            tables.add(table);
        }
        int k = 0;
        while (true) {
            int start = place;
            if (b.symbols.size() == 8 * b.picks.size()) {
                throw new Fault(SortedBlocks.MORE, start);
            }
            int s = readSymbol(tables.get(b.picks.get(b.symbols.size() / 8)));
            b.symbols.add(s);
            if (s == b.kinds + 1) {
                return start;
            }
            int many = 1;
            if (s < 2) {
                many = (s + 1) * (int) Math.pow(2, k);
                k++;
            } else {
                k = 0;
                list.add(0, list.remove(s - 1));
            }
            if (b.column.size() + many > 8 * level) {
                throw new Fault(SortedBlocks.MORE, start);
            }
            b.column.addAll(Collections.nCopies(many, list.get(0)));
        }
    }

    private int readSymbol(Map<String, Integer> table) {
        int start = place;
        String code = "";
        while (!table.containsKey(code)) {
            if (code.length() == 12) {
                throw new Fault(SortedBlocks.CODE, start);
            }
            code += bitOf(start);
        }
        return table.get(code);
    }

    static void unsort(Told b) {
        List<Integer> f = new ArrayList<>();
        for (int p = 0; p < b.column.size(); p++) {
            f.add(p);
        }
        f.sort(Comparator.comparingInt(b.column::get));
        int p = b.origin;
        for (int i = 0; i < b.column.size(); i++) {
            p = f.get(p);
            b.shortened.add(b.column.get(p));
        }
    }

    static List<Integer> lengthen(Told b, int endAt) {
        List<Integer> bytes = new ArrayList<>();
        List<Integer> x = b.shortened;
        int i = 0;
        while (i < x.size()) {
            int n = 1;
            while (n < 4 && i + n < x.size() && x.get(i + n).equals(x.get(i))) {
                n++;
            }
            bytes.addAll(Collections.nCopies(n, x.get(i)));
            if (n == 4) {
                if (i + 4 == x.size()) {
                    throw new Fault(SortedBlocks.LACK, endAt);
                }
                bytes.addAll(Collections.nCopies(x.get(i + 4), x.get(i)));
                n = 5;
            }
            i += n;
        }
        return bytes;
    }
}
