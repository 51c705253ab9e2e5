import java.util.ArrayList;
import java.util.List;

/** Promise 7: the faults of a stream's head and of a block up to its tables, HEAD to LENGTH. */
public final class Promise07HeadFaultsTest {
    private static final int CHECK_A = Model.checkOf(List.of(97));

    public static void main(String[] args) {
        Due.runAll(Promise07HeadFaultsTest.class);
    }

    private static Text start() {
        return new Text().head(1);
    }

    /** A block of the letters a and b up to T, which is to come. */
    private static Text mapped() {
        return start().blockHead(0, 0, 2);
    }

    /** A block of the letters a and b with two tables, up to the first of them. */
    private static Text picked() {
        return mapped().number(2, 3).number(1, 6).bits("0");
    }

    static void headTheFirstTwoBytes() {
        for (int bit = 0; bit < 16; bit++) {
            int wrong = 83 * 256 + 66 ^ 1 << bit;
            Read.fault("first bytes " + wrong, List.of(wrong / 256, wrong % 256, 1), SortedBlocks.HEAD, 0);
            Read.fault("first bytes alone " + wrong, List.of(wrong / 256, wrong % 256), SortedBlocks.HEAD, 0);
        }
        Read.fault("the other way round", List.of(66, 83, 1), SortedBlocks.HEAD, 0);
        Read.fault("both wrong, the level too", List.of(0, 0, 0), SortedBlocks.HEAD, 0);
    }

    static void headTakesLevel1AndRefuses0() {
        Read.fine("level 1", List.of(83, 66, 1, 0x17, 0x72, 0x45, 0, 0), List.of());
        Read.fault("level 0", List.of(83, 66, 0, 0x17, 0x72, 0x45, 0, 0), SortedBlocks.HEAD, 16);
        Read.fault("level 0 alone", List.of(83, 66, 0), SortedBlocks.HEAD, 16);
    }

    static void headTakesLevel8AndRefuses9() {
        Read.fine("level 8", List.of(83, 66, 8, 0x17, 0x72, 0x45, 0, 0), List.of());
        Read.fault("level 9", List.of(83, 66, 9, 0x17, 0x72, 0x45, 0, 0), SortedBlocks.HEAD, 16);
        Read.fault("level 9 alone", List.of(83, 66, 9), SortedBlocks.HEAD, 16);
        for (int level : new int[] {16, 127, 128, 129, 255}) {
            Read.fault("level " + level, List.of(83, 66, level), SortedBlocks.HEAD, 16);
        }
    }

    static void headOfALaterStream() {
        List<Integer> none = List.of(83, 66, 1, 0x17, 0x72, 0x45, 0, 0);
        Read.fault("two bytes behind a stream", Text.join(none, List.of(0, 0)), SortedBlocks.HEAD, 64);
        Read.fault("level 0 behind a stream", Text.join(none, List.of(83, 66, 0)), SortedBlocks.HEAD, 80);
        Read.fault("level 9 behind a stream", Text.join(none, List.of(83, 66, 9)), SortedBlocks.HEAD, 80);
        Text text = start().letterBlock(CHECK_A, 0, "10", "0").end(CHECK_A);
        // a fault in a later stream takes back what the first one has
        Read.fault("a fault behind a good stream", Text.join(text.bytes(), List.of(1, 2)), SortedBlocks.HEAD,
                8 * text.bytes().size());
    }

    static void markIsNeitherABlocksNorTheEnds() {
        for (int bit = 0; bit < 24; bit++) {
            Read.faultInLast("another mark of a block", start().number(0x314159 ^ 1 << bit, 24),
                    SortedBlocks.MARK);
            Read.faultInLast("another mark of an end", start().number(0x177245 ^ 1 << bit, 24),
                    SortedBlocks.MARK);
        }
        Read.faultInLast("zeros", start().number(0, 24), SortedBlocks.MARK);
        Read.faultInLast("ones", start().number(0xFFFFFF, 24), SortedBlocks.MARK);
    }

    static void markBehindABlock() {
        Read.faultInLast("no mark behind a block",
                start().letterBlock(CHECK_A, 0, "10", "0").number(0x314158, 24), SortedBlocks.MARK);
    }

    private static Text unmapped() {
        return start().bits(Model.BLOCK).number(0, 16).number(0, 6);
    }

    static void mapIsMetAtTheFirst16BitsIfTheyAre0() {
        Read.faultInLast("no byte", unmapped().number(0, 16), SortedBlocks.MAP);
    }

    static void mapIsMetAtTheLastOnesOfTheOthers() {
        Read.faultInLast("no byte in the first", unmapped().number(0x8000, 16).number(0, 16), SortedBlocks.MAP);
        Read.faultInLast("no byte in the last", unmapped().number(1, 16).number(0, 16), SortedBlocks.MAP);
        Read.faultInLast("no byte in two", unmapped().number(0x8001, 16).number(0, 16).number(0, 16),
                SortedBlocks.MAP);
        Text text = unmapped().number(0xFFFF, 16);
        for (int i = 0; i < 16; i++) {
            text.number(0, 16);
        }
        Read.faultInLast("no byte in sixteen", text, SortedBlocks.MAP);
    }

    /** A block with one byte, read by these maps. */
    private static void oneByte(int value, int... maps) {
        int check = Model.checkOf(List.of(value));
        Text text = start().bits(Model.BLOCK).number(check, 16).number(0, 6);
        for (int map : maps) {
            text.number(map, 16);
        }
        text.number(1, 3).number(1, 6).bits("0").number(2, 5).all("0", "0", "11", "0").all("10", "0");
        SortedBlocks x = Read.fineBlock("byte " + value, text, check, List.of(value));
        Due.same("kinds of byte " + value, Due.lengths(x, 0), List.of(2, 2, 1));
    }

    static void mapMayHaveEmptyOnesBesideOthers() {
        oneByte(255, 0x8001, 0, 1);
        oneByte(0, 0x8001, 0x8000, 0);
        oneByte(16, 0xFFFF, 0, 0x8000, 0, 0, 0, 0, 0, 0, 0, 0, 0, 0, 0, 0, 0, 0);
    }

    static void mapOfEachFirstAndLastByteOfSixteen() {
        for (int i = 0; i < 16; i++) {
            oneByte(16 * i, 0x8000 >> i, 0x8000);
            oneByte(16 * i + 15, 0x8000 >> i, 1);
        }
    }

    /** All 256 bytes are in the list, and the symbols are 0 .. 257. */
    static void mapOfAllBytes() {
        int check = Model.checkOf(List.of(255));
        Text text = start().bits(Model.BLOCK).number(check, 16).number(0, 6);
        for (int i = 0; i <= 16; i++) {
            text.number(0xFFFF, 16);
        }
        text.number(1, 3).number(1, 6).bits("0").number(9, 5).bits("0".repeat(258));
        // all lengths are 9, so that symbol s has the nine bits of s: place 255 is 256, the END is 257
        text.number(256, 9).number(257, 9);
        SortedBlocks x = Read.fineBlock("all bytes", text, check, List.of(255));
        Due.same("symbol 0", x.symbol(0), 256);
        Due.same("the END", x.symbol(1), 257);
    }

    static void tablesTakes1To4() {
        for (int t = 1; t <= 4; t++) {
            Text text = start().blockHead(CHECK_A, 0, 1).number(t, 3).number(1, 6).bits("0");
            for (int k = 0; k < t; k++) {
                text.number(2, 5).all("0", "0", "11", "0");
            }
            SortedBlocks x = Read.fineBlock(t + " tables", text.all("10", "0"), CHECK_A, List.of(97));
            Due.same("tables", x.block(3), t);
        }
    }

    static void tablesRefuses0And5AndMore() {
        for (int t : new int[] {0, 5, 6, 7}) {
            Read.faultInLast(t + " tables", mapped().number(t, 3), SortedBlocks.TABLES);
        }
    }

    static void groupsTakes1And63AndRefuses0() {
        for (int groups : new int[] {1, 2, 62, 63}) {
            Text text = start().blockHead(CHECK_A, 0, 1).number(1, 3).number(groups, 6);
            text.bits("0".repeat(groups)).number(2, 5).all("0", "0", "11", "0").all("10", "0");
            SortedBlocks x = Read.fineBlock(groups + " groups", text, CHECK_A, List.of(97));
            Due.same("groups", Due.picks(x), Text.many(groups, 0));
        }
        for (int t = 1; t <= 4; t++) {
            Read.faultInLast("no group", mapped().number(t, 3).number(0, 6), SortedBlocks.GROUPS);
        }
    }

    static void pickTakesOneBitLessThanTables() {
        for (int t = 1; t <= 4; t++) {
            Text text = start().blockHead(CHECK_A, 0, 1).number(t, 3).number(3, 6);
            // the last table of the list each time, which is another one then
            text.all("1".repeat(t - 1) + "0", "1".repeat(t - 1) + "0", "1".repeat(t - 1) + "0");
            for (int k = 0; k < t; k++) {
                text.number(2, 5).all("0", "0", "11", "0");
            }
            SortedBlocks x = Read.fineBlock("pick of " + t, text.all("10", "0"), CHECK_A, List.of(97));
            List<Integer> due = new ArrayList<>();
            for (int g = 0; g < 3; g++) {
                due.add(Math.floorMod(t - 1 - g, t));
            }
            Due.same("picks of " + t, Due.picks(x), due);
        }
    }

    static void pickRefusesAsManyBitsAsTables() {
        for (int t = 1; t <= 4; t++) {
            String ones = "1".repeat(t);
            Read.faultInLast("pick of " + t, mapped().number(t, 3).number(2, 6).bits(ones), SortedBlocks.PICK);
            Text text = mapped().number(t, 3).number(2, 6).bits("1".repeat(t - 1) + "0").bits(ones);
            Read.faultInLast("second pick of " + t, text, SortedBlocks.PICK);
            text = mapped().number(t, 3).number(63, 6).bits("0".repeat(62)).bits(ones);
            Read.faultInLast("last pick of " + t, text, SortedBlocks.PICK);
        }
    }

    static void pickIsMetThoughInEndsWithIt() {
        Text text = mapped().number(2, 3).number(63, 6);
        while (text.size() % 8 != 6) {
            text.bits("0");
        }
        text.bits("11");
        Read.fault("pick at the end of IN", text.bytes(), SortedBlocks.PICK, text.fromBehind(1));
    }

    static void lengthTakes1And12InTheFiveBits() {
        // A, B and END of length 1: A is 0, B is 1, and the END has the code of A, so it never comes
        Text text = start().blockHead(CHECK_A, 0, 1).number(1, 3).number(1, 6).bits("0");
        text.number(1, 5).all("0", "10", "0", "0");
        // A is 0, B is 10, the END is 11
        SortedBlocks x = Read.fineBlock("length 1", text.all("0", "11"), CHECK_A, List.of(97));
        Due.same("lengths", Due.lengths(x, 0), List.of(1, 2, 2));
        text = start().blockHead(CHECK_A, 0, 1).number(1, 3).number(1, 6).bits("0");
        text.number(12, 5).all("0", "0", "0").all("000000000000", "000000000010");
        x = Read.fineBlock("length 12", text, CHECK_A, List.of(97));
        Due.same("lengths", Due.lengths(x, 0), List.of(12, 12, 12));
    }

    static void lengthRefuses0And13InTheFiveBits() {
        for (int length : new int[] {0, 13, 14, 16, 31}) {
            Read.faultInLast("length " + length, picked().number(length, 5), SortedBlocks.LENGTH);
            Text text = picked().number(12, 5).all("0", "0", "0", "0");
            Read.faultInLast("second table, length " + length, text.number(length, 5), SortedBlocks.LENGTH);
        }
    }

    static void lengthTakes1And12ByStepsAndRefusesOneMore() {
        for (int symbol = 0; symbol < 4; symbol++) {
            String before = "0".repeat(symbol);
            Read.faultInLast("13 at symbol " + symbol, picked().number(11, 5).all(before, "10", "10"),
                    SortedBlocks.LENGTH);
            Read.faultInLast("0 at symbol " + symbol, picked().number(2, 5).all(before, "11", "11"),
                    SortedBlocks.LENGTH);
        }
        Read.faultInLast("13 by many", picked().number(10, 5).all("0", "10", "0", "10", "10"),
                SortedBlocks.LENGTH);
        Read.faultInLast("0 by many", picked().number(3, 5).all("11", "10", "11", "11", "0", "11"),
                SortedBlocks.LENGTH);
        Read.faultInLast("0 at once", picked().number(1, 5).bits("11"), SortedBlocks.LENGTH);
        Read.faultInLast("13 at once", picked().number(12, 5).bits("10"), SortedBlocks.LENGTH);
    }

    static void lengthMayGoUpAndDownAgain() {
        Text text = start().blockHead(CHECK_A, 0, 1).number(1, 3).number(1, 6).bits("0");
        text.number(11, 5).all("10", "11", "11", "0");
        for (int k = 0; k < 9; k++) {
            text.bits("11");
        }
        text.all("10", "0").all("11", "0");
        // lengths 10, 2, 1: the END is 0, B is 10, A is 11 and eight bits 0
        SortedBlocks x = Read.fineBlock("up and down", text.all("1100000000", "0"), CHECK_A, List.of(97));
        Due.same("lengths", Due.lengths(x, 0), List.of(10, 2, 1));
    }

    static void lengthFrom1To12AndBack() {
        Text text = start().blockHead(CHECK_A, 0, 1).number(1, 3).number(1, 6).bits("0");
        text.number(1, 5).bits("0");
        text.all("10".repeat(11)).bits("0").all("11".repeat(10)).bits("0");
        // lengths 1, 12, 2: A is 0, the END is 10, B is 11 and ten bits 0
        SortedBlocks x = Read.fineBlock("1, 12 and 2", text.all("0", "10"), CHECK_A, List.of(97));
        Due.same("lengths", Due.lengths(x, 0), List.of(1, 12, 2));
    }

    static void lengthBehindTheLastSymbolIsNotLookedFor() {
        // the codes begin with 11, which would be a length of 0
        int check = Model.checkOf(Text.letters("aa"));
        Text text = start().blockHead(check, 0, 1).number(1, 3).number(1, 6).bits("0");
        // lengths 2, 2, 1: the END is 0, A is 10, B is 11
        text.number(2, 5).all("0", "0", "11", "0").all("11", "0");
        Read.fineBlock("11 behind the tables", text, check, Text.letters("aa"));
    }
}
