import java.util.ArrayList;
import java.util.List;

/** Promise 6: pack, and of the terms STREAM, CHECK and BLOCK as it is written. */
public final class Promise06PackTest {
    private static final List<Integer> BANANA = Text.letters("banana");
    /** Worked out by hand from the document. */
    private static final int BANANA_CHECK = 0x6AB4;

    public static void main(String[] args) {
        Due.runAll(Promise06PackTest.class);
    }

    static void takesLevel1AndRefuses0() {
        Due.same("pack(1)", Due.fed(BANANA).pack(1), 25);
        refuses(0);
    }

    static void takesLevel8AndRefuses9() {
        Due.same("pack(8)", Due.fed(BANANA).pack(8), 25);
        refuses(9);
    }

    static void refusesLevelsFarOff() {
        for (int level : new int[] {-1, -8, 16, 256 + 1, Integer.MIN_VALUE, Integer.MAX_VALUE}) {
            refuses(level);
        }
    }

    private static void refuses(int level) {
        Due.refusedWhole("pack(" + level + ")", Text.letters("abc"), IllegalArgumentException.class,
                x -> x.pack(level));
        Due.refusedWhole("pack(" + level + ") of none", List.of(), IllegalArgumentException.class,
                x -> x.pack(level));
        Due.refused("pack(" + level + ") of a new object", IllegalArgumentException.class,
                () -> new SortedBlocks().pack(level));
    }

    static void writesNoBlockWhenThereIsNoByte() {
        for (int level = 1; level <= 8; level++) {
            SortedBlocks x = Due.busy(List.of());
            Due.same("pack(" + level + ") of none", x.pack(level), 8);
            Due.same("stream", Due.out(x), List.of(83, 66, level, 0x17, 0x72, 0x45, 0, 0));
            Due.toldNothing("pack of none", x);
        }
    }

    static void writesABlockNumberByNumber() {
        Text text = new Text().head(1);
        text.bits("001100010100000101011001").number(BANANA_CHECK, 16).number(3, 6);
        text.bits("0000001000000000").bits("0110000000000010");
        text.number(2, 3).number(1, 6).bits("0");
        text.all("00011", "0", "0", "0", "11", "11", "0", "10", "10", "0");
        text.all("00011", "0", "0", "11", "0", "0", "0");
        text.all("0", "100", "0", "0", "101", "111");
        text.bits("000101110111001001000101").number(BANANA_CHECK, 16);
        SortedBlocks x = Due.fed(BANANA);
        Due.same("pack banana", x.pack(1), 25);
        Due.same("stream", Due.out(x), text.bytes());
        Due.same("size", x.size(), 25);
    }

    static void inStaysAndAtStays() {
        SortedBlocks x = Due.busy(BANANA);
        x.pack(3);
        Due.same("given", x.given(), 6);
        Due.same("at", x.at(), 16);
        Due.same("IN", Due.in(x), BANANA);
        SortedBlocks y = Due.fed(Text.stairs(400));
        y.pack(1);
        Due.same("full IN", Due.in(y), Text.stairs(400));
    }

    static void outBecomesTheStreamAlone() {
        SortedBlocks x = Due.fed(Text.rising(100));
        x.pack(8);
        x.keep(1);
        Due.same("a shorter one behind a longer one", x.pack(8), x.size());
        Due.same("stream", Due.out(x), Due.packed(List.of(0), 8));
        Due.same("again", x.pack(8), x.size());
        Due.same("stream again", Due.out(x), Due.packed(List.of(0), 8));
    }

    static void checkOfKnownBytes() {
        check(List.of(0), 0xE1F0);
        check(List.of(255), 0xFF00);
        check(Text.letters("A"), 0xB915);
        check(Text.letters("123456789"), 0x29B1);
        check(BANANA, BANANA_CHECK);
        // the first byte leaves 0xFF00, so that the second one makes it 0x8000: only a 1 that goes out
        check(List.of(255, 127), 0x9188);
        check(List.of(255, 254), 0x1021);
    }

    static void checkMayBeNothingButZeros() {
        check(List.of(255, 255), 0);
        // bytes with their own check behind them have the check 0
        check(List.of(0, 0xE1, 0xF0), 0);
        List<Integer> stream = Due.packed(List.of(0, 0xE1, 0xF0), 2);
        SortedBlocks x = Due.fed(stream);
        Due.same("unpack", x.unpack(), 3);
        Due.same("check", x.block(4), 0);
    }

    static void checkMayBeNothingButOnes() {
        // of all pairs of bytes behind a 1 just one leaves all 1
        for (int pair = 0; pair < 65536; pair++) {
            List<Integer> bytes = List.of(1, pair / 256, pair % 256);
            if (Model.checkOf(bytes) == 0xFFFF) {
                check(bytes, 0xFFFF);
                Due.same("unpack", Due.fed(Due.packed(bytes, 2)).unpack(), 3);
            }
        }
    }

    private static void check(List<Integer> bytes, int due) {
        SortedBlocks x = Due.afterPack(bytes, 2);
        Due.same("check of " + bytes, x.block(4), due);
        String bits = Model.bitsOf(Due.out(x));
        Due.same("written check of " + bytes, bits.substring(48, 64), Model.number(due, 16));
        Due.same("total of one block " + bytes, bits.contains(Model.END + Model.number(due, 16)), true);
    }

    static void checkIsOfTheBytesBeforeTheyAreShortened() {
        for (int n : new int[] {3, 4, 5, 255, 256, 400}) {
            SortedBlocks x = Due.afterPack(Text.many(n, 7), 8);
            Due.same("check of " + n, x.block(4), Model.checkOf(Text.many(n, 7)));
        }
    }

    static void totalIsTurnedForEachBlock() {
        // 25 letters are blocks of 8, 8, 8 and 1 at level 1
        List<Integer> letters = Text.letters("abcdefghijklmnopqrstuvwxy");
        int total = 0;
        boolean carried = false;
        for (int from = 0; from < 25; from += 8) {
            carried |= total > 0x7FFF;
            total = (total * 2 % 65536 + total / 32768)
                    ^ Model.checkOf(letters.subList(from, Math.min(from + 8, 25)));
        }
        Due.same("a 1 was carried round", carried, true);
        String bits = Model.bitsOf(Due.packed(letters, 1));
        int end = bits.lastIndexOf(Model.END);
        Due.same("total", bits.substring(end + 24, end + 40), Model.number(total, 16));
    }

    static void fillsTheLastByteWithZeros() {
        boolean[] seen = new boolean[8];
        for (int n = 1; n <= 60; n++) {
            List<Integer> bytes = Text.stairs(n + 20).subList(20 - n % 7, n + 20);
            Model m = new Model();
            m.in = bytes;
            m.pack(2);
            int left = (8 - m.packedBits % 8) % 8;
            seen[left] = true;
            List<Integer> stream = Due.packed(bytes, 2);
            Due.same("bytes of a stream with " + left + " bits left", stream.size(), (m.packedBits + 7) / 8);
            Due.same("bits left", Model.bitsOf(stream).substring(m.packedBits), "0".repeat(left));
        }
        for (int left = 0; left < 8; left++) {
            Due.same("there was a stream with " + left + " bits left", seen[left], true);
        }
    }

    static void mapsOfTheFirstAndTheLastBytes() {
        map(List.of(0), "1000000000000000" + "1000000000000000");
        map(List.of(15), "1000000000000000" + "0000000000000001");
        map(List.of(16), "0100000000000000" + "1000000000000000");
        map(List.of(239), "0000000000000010" + "0000000000000001");
        map(List.of(240), "0000000000000001" + "1000000000000000");
        map(List.of(255), "0000000000000001" + "0000000000000001");
        map(List.of(0, 255), "1000000000000001" + "1000000000000000" + "0000000000000001");
    }

    static void mapsOfAllSixteens() {
        List<Integer> bytes = new ArrayList<>();
        StringBuilder due = new StringBuilder("1".repeat(16));
        for (int i = 0; i < 16; i++) {
            bytes.add(17 * i);
            due.append("0".repeat(i)).append('1').append("0".repeat(15 - i));
        }
        map(bytes, due.toString());
    }

    static void mapsHaveTheBytesOfTheShortenedForm() {
        // four bytes 32 and a 1 that says that there is one more
        map(Text.many(5, 32), "1010000000000000" + "0100000000000000" + "1000000000000000");
    }

    private static void map(List<Integer> bytes, String due) {
        String bits = Model.bitsOf(Due.packed(bytes, 8));
        Due.same("map of " + bytes, bits.substring(70, 70 + due.length()), due);
        Due.same("tables behind the map of " + bytes, bits.substring(70 + due.length(), 73 + due.length()), "010");
    }

    static void aFullInWithEveryLevel() {
        List<Integer> row = new ArrayList<>();
        for (int i = 0; i < 400; i++) {
            row.add(i * i / 7 + i % 5 & 255);
        }
        for (int level = 1; level <= 8; level++) {
            sameAsModel(row, level);
            sameAsModel(Text.stairs(400), level);
            sameAsModel(Text.many(400, 9), level);
        }
    }

    /** As many kinds of bytes in each block as there can be: the longest streams. */
    static void theLongestStreams() {
        List<Integer> row = new ArrayList<>();
        for (int i = 0; i < 400; i++) {
            row.add(i * 17 + i / 16 & 255);
        }
        for (int level = 1; level <= 8; level++) {
            sameAsModel(row, level);
        }
    }

    private static void sameAsModel(List<Integer> row, int level) {
        Model m = new Model();
        m.in = row;
        m.pack(level);
        SortedBlocks x = Due.fed(row);
        Due.same("size at level " + level, x.pack(level), m.out.size());
        Due.same("blocks at level " + level, x.blocks(), m.blocks);
        Due.same("stream at level " + level, Due.packed(row, level), m.out);
    }
}
