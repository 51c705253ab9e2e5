import java.util.List;

/** Promise 7: SHORT, at the number that IN does not hold whole. */
public final class Promise07ShortTest {
    private static final int CHECK_A = Model.checkOf(List.of(97));
    private static final int CHECK_AB = Model.checkOf(Text.letters("ab"));

    public static void main(String[] args) {
        Due.runAll(Promise07ShortTest.class);
    }

    static void anEmptyInIsShortAt0() {
        Read.fault("empty", List.of(), SortedBlocks.SHORT, 0);
        SortedBlocks x = new SortedBlocks();
        Due.same("new object", x.unpack(), SortedBlocks.SHORT);
        Due.same("new object: at", x.at(), 0);
    }

    static void theFirst16BitsAreOneNumber() {
        Read.fault("83", List.of(83), SortedBlocks.SHORT, 0);
        Read.fault("another byte", List.of(1), SortedBlocks.SHORT, 0);
        Read.fault("83 and 66", List.of(83, 66), SortedBlocks.SHORT, 16);
    }

    static void theMarkIsOneNumber() {
        for (int level = 1; level <= 8; level++) {
            Read.fault("level " + level, List.of(83, 66, level), SortedBlocks.SHORT, 24);
        }
        Read.fault("8 bits of a mark", List.of(83, 66, 1, 0x31), SortedBlocks.SHORT, 24);
        Read.fault("16 bits of no mark", List.of(83, 66, 1, 1, 1), SortedBlocks.SHORT, 24);
        Read.fault("the mark of a block", List.of(83, 66, 1, 0x31, 0x41, 0x59), SortedBlocks.SHORT, 48);
        Read.fault("8 bits of a check", List.of(83, 66, 1, 0x31, 0x41, 0x59, 1), SortedBlocks.SHORT, 48);
        Read.fault("a check", List.of(83, 66, 1, 0x31, 0x41, 0x59, 1, 1), SortedBlocks.SHORT, 64);
    }

    static void theTotalIsOneNumber() {
        Read.fault("no total", List.of(83, 66, 1, 0x17, 0x72, 0x45), SortedBlocks.SHORT, 48);
        Read.fault("8 bits of a total", List.of(83, 66, 1, 0x17, 0x72, 0x45, 0), SortedBlocks.SHORT, 48);
        Read.fault("8 bits of a wrong total", List.of(83, 66, 1, 0x17, 0x72, 0x45, 1), SortedBlocks.SHORT, 48);
    }

    static void aSecondStreamIsShortWhereItEnds() {
        List<Integer> none = List.of(83, 66, 1, 0x17, 0x72, 0x45, 0, 0);
        for (int n = 1; n < 8; n++) {
            int at = n < 2 ? 64 : n < 3 ? 80 : n < 6 ? 88 : 112;
            Read.fault(n + " bytes more", Text.join(none, none.subList(0, n)), SortedBlocks.SHORT, at);
        }
    }

    /** A block that only shifts what comes behind it by a bit or more: its groups have a bit each. */
    private static Text shifted(int groups) {
        Text text = new Text().head(1).blockHead(CHECK_A, 0, 1).number(1, 3).number(groups, 6);
        for (int g = 0; g < groups; g++) {
            text.bits("0");
        }
        return text.number(2, 5).all("0", "0", "11", "0").all("10", "0");
    }

    /** Each number of a block and of the end, cut off at each of its bits. */
    static void everyNumberAtEveryPlaceInAByte() {
        for (int groups = 1; groups <= 8; groups++) {
            Text text = shifted(groups);
            int from = text.size();
            text.bits(Model.BLOCK).number(CHECK_AB, 16).number(0, 6);
            text.bits("1000001000000001").bits("0000000000000000").bits("0110000000000000").bits("0000000000000001");
            text.number(3, 3).number(3, 6).all("110", "10", "110");
            // symbols 0 .. 4
            text.number(3, 5).all("0", "11", "0", "0", "10", "10", "0", "0");
            text.number(4, 5).all("0", "0", "0", "0", "0");
            text.number(3, 5).all("0", "0", "0", "0", "0");
            // table 2 is that of the first group: symbol s has the three bits of s
            text.all("010", "010", "100");
            text.end(Model.turn(CHECK_A) ^ CHECK_AB);
            Read.fine("whole stream " + groups, text.bytes(), Text.letters("aab"));
            for (int n = from / 8; n < text.bytes().size(); n++) {
                Read.fault("shifted " + groups + ", cut to " + n, text.bytes().subList(0, n),
                        SortedBlocks.SHORT, text.cutAt(8 * n));
            }
        }
    }

    /** Codes of 12 bits, cut off at each of them. */
    static void everyBitOfLongCodes() {
        for (int groups = 1; groups <= 8; groups++) {
            Text text = new Text().head(1).blockHead(CHECK_A, 0, 1).number(1, 3).number(groups, 6);
            for (int g = 0; g < groups; g++) {
                text.bits("0");
            }
            text.number(12, 5).all("0", "0", "0");
            int from = text.size();
            text.all("000000000000", "000000000010").end(CHECK_A);
            Read.fine("whole stream " + groups, text.bytes(), List.of(97));
            for (int n = from / 8; n < text.bytes().size(); n++) {
                Read.fault("groups " + groups + ", cut to " + n, text.bytes().subList(0, n),
                        SortedBlocks.SHORT, text.cutAt(8 * n));
            }
        }
    }

    /** A block of the letter a with so many tables, whose head has so many groups that the next bits end a byte. */
    private static Text upTo(int tables, int bitsBehind) {
        int groups = 1;
        Text text = headOf(tables, groups);
        while ((text.size() + bitsBehind) % 8 != 0) {
            groups++;
            text = headOf(tables, groups);
        }
        return text;
    }

    private static Text headOf(int tables, int groups) {
        Text text = new Text().head(1).blockHead(CHECK_A, 0, 1).number(tables, 3).number(groups, 6);
        return text.bits("0".repeat(groups));
    }

    /** What would be a fault if there were more of it is SHORT as long as its number is not whole. */
    static void beforeCode() {
        Text text = upTo(1, 5 + 3 + 11).number(12, 5).all("0", "0", "0").bits("11111111111");
        Read.fault("11 bits of no code", text.bytes(), SortedBlocks.SHORT, text.fromBehind(1));
        text = upTo(1, 5 + 3 + 12).number(12, 5).all("0", "0", "0").bits("111111111111");
        Read.fault("12 bits of no code", text.bytes(), SortedBlocks.CODE, text.fromBehind(1));
    }

    static void beforeLength() {
        Text text = upTo(1, 5 + 1).number(12, 5).bits("1");
        Read.fault("half of a step too high", text.bytes(), SortedBlocks.SHORT, text.fromBehind(1));
        text = upTo(1, 5 + 2).number(12, 5).bits("10");
        Read.fault("a step too high", text.bytes(), SortedBlocks.LENGTH, text.fromBehind(1));
        text = upTo(1, 4).bits("1111");
        Read.fault("four bits of a length", text.bytes(), SortedBlocks.SHORT, text.fromBehind(1));
        text = upTo(1, 5).bits("11111");
        Read.fault("five bits of a length", text.bytes(), SortedBlocks.LENGTH, text.fromBehind(1));
    }

    /** In a table each 0, 10 or 11 is a number, so that IN ends before one if it ends behind another. */
    static void betweenStepsOfALength() {
        Text text = upTo(1, 5).number(5, 5);
        Read.fault("behind the five bits", text.bytes(), SortedBlocks.SHORT, text.size());
        text = upTo(1, 5 + 4).number(5, 5).all("10", "10");
        Read.fault("behind two steps", text.bytes(), SortedBlocks.SHORT, text.size());
        text = upTo(1, 5 + 5).number(5, 5).all("10", "11", "0");
        Read.fault("behind a length", text.bytes(), SortedBlocks.SHORT, text.size());
    }

    static void beforePick() {
        for (int tables = 2; tables <= 4; tables++) {
            // more groups than picks, so that another pick is due
            Text text = new Text().head(1).blockHead(CHECK_A, 0, 1).number(tables, 3).number(63, 6);
            while ((text.size() + tables - 1) % 8 != 0) {
                text.bits("0");
            }
            text.bits("1".repeat(tables - 1));
            Read.fault("a bit less than a wrong pick", text.bytes(), SortedBlocks.SHORT, text.fromBehind(1));
        }
    }
}
