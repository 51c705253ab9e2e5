import java.util.ArrayList;
import java.util.Collections;
import java.util.List;

/** A text of bits, put together number by number, which knows where each number begins. */
final class Text {
    private final StringBuilder bits = new StringBuilder();
    private final List<Integer> starts = new ArrayList<>();

    Text number(int value, int n) {
        return bits(Model.number(value, n));
    }

    /** One number, given by its bits. */
    Text bits(String number) {
        starts.add(bits.length());
        bits.append(number);
        return this;
    }

    /** Many numbers, given by their bits. */
    Text all(String... numbers) {
        for (String number : numbers) {
            bits(number);
        }
        return this;
    }

    Text head(int level) {
        return number(83 * 256 + 66, 16).number(level, 8);
    }

    /** Mark, check, origin and map of a block of the letters a .. */
    Text blockHead(int check, int origin, int letters) {
        bits(Model.BLOCK).number(check, 16).number(origin, 6);
        bits("0000001000000000");
        return bits("0" + "1".repeat(letters) + "0".repeat(15 - letters));
    }

    /**
     * A whole block with one letter a: one table and one group; the END is 0, A is 10 and B is 11.
     */
    Text letterBlock(int check, int origin, String... codes) {
        blockHead(check, origin, 1).number(1, 3).number(1, 6).bits("0");
        number(2, 5).all("0", "0", "11", "0");
        return all(codes);
    }

    Text end(int total) {
        return bits(Model.END).number(total, 16);
    }

    int size() {
        return bits.length();
    }

    /** Where the number begins that is the n-th from behind, 1 being the last. */
    int fromBehind(int n) {
        return starts.get(starts.size() - n);
    }

    /** Where the number begins that the first so many bits do not hold whole. */
    int cutAt(int bitCount) {
        int i = 0;
        while (i + 1 < starts.size() && starts.get(i + 1) <= bitCount) {
            i++;
        }
        return starts.get(i);
    }

    List<Integer> bytes() {
        return bytes('0');
    }

    List<Integer> bytes(char filler) {
        String text = bits.toString();
        return Model.bytesOf(text + String.valueOf(filler).repeat((8 - text.length() % 8) % 8));
    }

    static List<Integer> letters(String text) {
        List<Integer> row = new ArrayList<>();
        text.chars().forEach(row::add);
        return row;
    }

    /** A row in runs of 20, which is long and yet packed to few bytes. */
    static List<Integer> stairs(int n) {
        List<Integer> row = new ArrayList<>();
        for (int i = 0; i < n; i++) {
            row.add(i / 20 * 11 & 255);
        }
        return row;
    }

    /** The first so many bytes of 0, 1, .. 255, without a run. */
    static List<Integer> rising(int n) {
        List<Integer> row = new ArrayList<>();
        for (int i = 0; i < n; i++) {
            row.add(i);
        }
        return row;
    }

    static List<Integer> many(int n, int value) {
        return Collections.nCopies(n, value);
    }

    /** A stream of a block whose one shortened form this is, read as it stands even if pack makes none such. */
    static List<Integer> streamOfForm(int level, List<Integer> form) {
        String block = blockOfForm(form);
        int check = Integer.parseInt(block.substring(24, 40), 2);
        return new Text().head(level).bits(block).end(check).bytes();
    }

    /** The bits of a block with this shortened form and the check that it asks for. */
    static String blockOfForm(List<Integer> form) {
        Model.Told b = Model.blockOfForm(form);
        b.check = Model.checkOf(Model.lengthen(b, 0));
        return Model.BLOCK + Model.write(b);
    }

    /** The bits of the block of these bytes, as pack writes them. */
    static String block(List<Integer> bytes) {
        return Model.BLOCK + Model.write(Model.blockOf(bytes));
    }

    static String block(String letters) {
        return block(letters(letters));
    }

    @SafeVarargs
    static List<Integer> join(List<Integer>... rows) {
        List<Integer> all = new ArrayList<>();
        for (List<Integer> row : rows) {
            all.addAll(row);
        }
        return all;
    }
}
