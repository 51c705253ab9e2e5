import java.util.ArrayList;
import java.util.Collections;
import java.util.List;

/** A text of bits, put together number by number, which knows where each number begins. */
final class Text {
    private final StringBuilder bits = new StringBuilder();
    private final List<Integer> starts = new ArrayList<>();

    Text number(int value, int n) {
        return bits(Model.number(value, n));
    }

    /** One number, given by its bits. */
    Text bits(String number) {
        starts.add(bits.length());
        bits.append(number);
        return this;
    }

    /** Many numbers, given by their bits. */
    Text all(String... numbers) {
        for (String number : numbers) {
            bits(number);
        }
        return this;
    }

    Text head(int level) {
        return number(83 * 256 + 66, 16).number(level, 8);
    }

    /** Mark, check, origin and map of a block of the letters a .. */
    Text blockHead(int check, int origin, int letters) {
        bits(Model.BLOCK).number(check, 16).number(origin, 6);
        bits("0000001000000000");
        return bits("0" + "1".repeat(letters) + "0".repeat(15 - letters));
    }

    /**
     * A whole block with one letter a: one table and one group; the END is 0, A is 10 and B is 11.
     */
    Text letterBlock(int check, int origin, String... codes) {
        blockHead(check, origin, 1).number(1, 3).number(1, 6).bits("0");
        number(2, 5).all("0", "0", "11", "0");
        return all(codes);
    }

    Text end(int total) {
        return bits(Model.END).number(total, 16);
    }

    int size() {
        return bits.length();
    }

    /** Where the number begins that is the n-th from behind, 1 being the last. */
    int fromBehind(int n) {
        return starts.get(starts.size() - n);
    }

    /** Where the number begins that the first so many bits do not hold whole. */
    int cutAt(int bitCount) {
        int i = 0;
        while (i + 1 < starts.size() && starts.get(i + 1) <= bitCount) {
            i++;
        }
        return starts.get(i);
    }

    List<Integer> bytes() {
        return bytes('0');
    }

    List<Integer> bytes(char filler) {
        String text = bits.toString();
        return Model.bytesOf(text + String.valueOf(filler).repeat((8 - text.length() % 8) % 8));
    }

    static List<Integer> letters(String text) {
        List<Integer> row = new ArrayList<>();
        text.chars().forEach(row::add);
        return row;
    }

    static List<Integer> many(int n, int value) {
        return Collections.nCopies(n, value);
    }

    @SafeVarargs
    static List<Integer> join(List<Integer>... rows) {
        List<Integer> all = new ArrayList<>();
        for (List<Integer> row : rows) {
            all.addAll(row);
        }
        return all;
    }
}
