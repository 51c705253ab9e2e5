import java.util.ArrayList;
import java.util.List;
import java.util.TreeSet;

/** Each fault, at the bit at which the document has it met, and which of two is met first. */
public final class FaultsTest {
    private static final int CHECK_A = Model.checkOf(List.of(97));

    public static void main(String[] args) {
        shortAtEveryNumber();
        head();
        mark();
        map();
        tables();
        groups();
        pick();
        lengths();
        code();
        wrappedCodes();
        more();
        origin();
        lack();
        pieces();
        check();
        total();
        secondStream();
        Due.end("FaultsTest");
    }

    private static SortedBlocks read(String what, List<Integer> stream, int fault, int at) {
        SortedBlocks x = Due.fed(stream);
        Due.same(what, x.unpack(), fault);
        Due.same(what + ": at", x.at(), at);
        Due.same(what + ": OUT stays", x.size(), 0);
        Due.same(what + ": blocks stay", x.blocks(), 0);
        return x;
    }

    /** The last number of the text is the one in which the fault is met. */
    private static void atLast(String what, Text text, int fault) {
        int at = text.fromBehind(1);
        read(what, Text.join(text.bytes('1'), Text.many(8, 255)), fault, at);
    }

    private static void fine(String what, Text text, List<Integer> bytes) {
        SortedBlocks x = Due.fed(text.bytes());
        Due.same(what, x.unpack(), bytes.size());
        Due.same(what + ": bytes", Due.out(x), bytes);
    }

    private static Text start() {
        return new Text().head(1);
    }

    /** A block of the letters a and b up to T, which is to come. */
    private static Text mapped() {
        return start().blockHead(0, 0, 2);
    }

    private static void shortAtEveryNumber() {
        int check = Model.checkOf(Text.letters("ab"));
        Text text = start().blockHead(check, 0, 2).number(3, 3).number(3, 6);
        text.all("110", "10", "110");
        text.number(3, 5).all("0", "11", "0", "0", "10", "10", "0");
        text.number(4, 5).all("0", "0", "0", "0");
        text.number(2, 5).all("0", "0", "0", "0");
        // table 2 is that of the first group: symbols 0 .. 3 have 00, 01, 10 and 11
        text.all("10", "10", "11");
        text.end(check);
        int whole = text.bytes().size();
        Due.same("whole stream", Due.fed(text.bytes()).unpack(), 2);
        for (int n = 0; n < whole; n++) {
            read("cut to " + n, text.bytes().subList(0, n), SortedBlocks.SHORT, text.cutAt(8 * n));
        }
        // the same with the numbers at other places in their bytes, by longer codes before them
        for (int extra = 1; extra < 8; extra++) {
            shiftedShort(extra);
        }
    }

    private static void shiftedShort(int extra) {
        Text text = start().blockHead(CHECK_A, 0, 1).number(2, 3).number(1 + extra, 6);
        for (int g = 0; g < 1 + extra; g++) {
            text.bits(g % 2 == 0 ? "10" : "0");
        }
        text.number(2, 5).all("0", "0", "11", "0");
        text.number(12, 5).all("0", "0", "11", "11", "0");
        // table 1: the END has 10 bits 0, A has 1 behind it, B comes next
        text.all("000000000100", "0000000000").end(CHECK_A);
        Due.same("whole stream " + extra, Due.fed(text.bytes()).unpack(), 1);
        for (int n = 0; n < text.bytes().size(); n++) {
            read("shifted by " + extra + ", cut to " + n, text.bytes().subList(0, n),
                    SortedBlocks.SHORT, text.cutAt(8 * n));
        }
    }

    private static void head() {
        read("empty", List.of(), SortedBlocks.SHORT, 0);
        read("one byte, and a wrong one", List.of(1), SortedBlocks.SHORT, 0);
        read("another first byte", List.of(82, 66, 1), SortedBlocks.HEAD, 0);
        read("another second byte", List.of(83, 67), SortedBlocks.HEAD, 0);
        for (int level : new int[] {0, 9, 128, 255}) {
            read("level " + level, List.of(83, 66, level), SortedBlocks.HEAD, 16);
        }
        for (int level = 1; level <= 8; level++) {
            read("level " + level, List.of(83, 66, level), SortedBlocks.SHORT, 24);
        }
    }

    private static void mark() {
        atLast("no mark", start().number(0x314158, 24), SortedBlocks.MARK);
        atLast("no end", start().number(0x177244, 24), SortedBlocks.MARK);
        atLast("no mark behind a block", start().letterBlock(CHECK_A, 0, "10", "0").number(0, 24),
                SortedBlocks.MARK);
    }

    private static void map() {
        Text text = start().bits(Model.BLOCK).number(0, 16).number(0, 6).number(0, 16);
        atLast("no byte", text, SortedBlocks.MAP);
        text = start().bits(Model.BLOCK).number(0, 16).number(0, 6).number(0x8001, 16);
        atLast("no byte in two maps", text.number(0, 16).number(0, 16), SortedBlocks.MAP);
        // a map may be empty if another is not
        text = start().bits(Model.BLOCK).number(Model.checkOf(List.of(255)), 16).number(0, 6);
        text.number(0x8001, 16).number(0, 16).number(1, 16).number(1, 3).number(1, 6).bits("0");
        text.number(2, 5).all("0", "0", "11", "0").all("10", "0").end(Model.checkOf(List.of(255)));
        fine("an empty map", text, List.of(255));
        text = start().bits(Model.BLOCK).number(Model.checkOf(List.of(0)), 16).number(0, 6);
        text.number(0x8001, 16).number(0x8000, 16).number(0, 16).number(1, 3).number(1, 6).bits("0");
        text.number(2, 5).all("0", "0", "11", "0").all("10", "0").end(Model.checkOf(List.of(0)));
        fine("an empty map at last", text, List.of(0));
    }

    private static void tables() {
        for (int t : new int[] {0, 5, 6, 7}) {
            atLast(t + " tables", mapped().number(t, 3), SortedBlocks.TABLES);
        }
    }

    private static void groups() {
        for (int t = 1; t <= 4; t++) {
            atLast("no group", mapped().number(t, 3).number(0, 6), SortedBlocks.GROUPS);
        }
    }

    private static void pick() {
        for (int t = 1; t <= 4; t++) {
            String ones = "1".repeat(t);
            atLast("pick of " + t, mapped().number(t, 3).number(2, 6).bits(ones), SortedBlocks.PICK);
            Text text = mapped().number(t, 3).number(2, 6).bits("1".repeat(t - 1) + "0").bits(ones);
            atLast("second pick of " + t, text, SortedBlocks.PICK);
        }
        // IN may end with the last 1
        Text text = mapped().number(2, 3).number(63, 6);
        for (int bits = text.size(); bits % 8 != 6; bits++) {
            text.bits("0");
        }
        text.bits("11");
        read("pick at the end of IN", text.bytes(), SortedBlocks.PICK, text.fromBehind(1));
    }

    private static Text picked() {
        return mapped().number(2, 3).number(1, 6).bits("0");
    }

    private static void lengths() {
        for (int length : new int[] {0, 13, 31}) {
            atLast("length " + length, picked().number(length, 5), SortedBlocks.LENGTH);
        }
        atLast("length 0 by 11", picked().number(1, 5).bits("11"), SortedBlocks.LENGTH);
        atLast("length 13 by 10", picked().number(12, 5).bits("10"), SortedBlocks.LENGTH);
        atLast("length 13 by many", picked().number(10, 5).all("0", "10", "0", "10", "10"),
                SortedBlocks.LENGTH);
        atLast("length 0 by many", picked().number(3, 5).all("11", "10", "11", "11", "0", "11"),
                SortedBlocks.LENGTH);
        Text text = picked().number(12, 5).all("0", "0", "0", "0");
        atLast("length 0 in the second table", text.number(0, 5), SortedBlocks.LENGTH);
        // up and down again is no fault, not even for symbol 0
        text = start().blockHead(CHECK_A, 0, 1).number(1, 3).number(1, 6).bits("0");
        text.number(11, 5).all("10", "11", "11", "0");
        for (int k = 0; k < 9; k++) {
            text.bits("11");
        }
        text.all("10", "0").all("11", "0");
        // lengths 10, 2, 1: the END is 0, B is 10, A is 11 and eight bits 0
        text.all("1100000000", "0").end(CHECK_A);
        fine("lengths up and down", text, List.of(97));
    }

    private static void code() {
        // all three symbols have 12 bits: 0, 1 and 2
        Text text = start().blockHead(0, 0, 1).number(1, 3).number(1, 6).bits("0");
        text.number(12, 5).all("0", "0", "0");
        atLast("no such code", text.number(3, 12), SortedBlocks.CODE);
        text = start().blockHead(CHECK_A, 0, 1).number(1, 3).number(1, 6).bits("0");
        text.number(12, 5).all("0", "0", "0");
        atLast("no such code behind a symbol", text.number(0, 12).number(4095, 12), SortedBlocks.CODE);
        text = start().blockHead(CHECK_A, 0, 1).number(1, 3).number(1, 6).bits("0");
        text.number(12, 5).all("0", "0", "0").number(0, 12).number(2, 12).end(CHECK_A);
        fine("12 bits", text, List.of(97));
    }

    private static void wrappedCodes() {
        // lengths 2, 1, 1: B is 0, the END is 1, and behind all 1 comes 0, so A is 00 and never read
        int check = Model.checkOf(Text.letters("aa"));
        Text text = start().blockHead(check, 0, 1).number(1, 3).number(1, 6).bits("0");
        text.number(2, 5).all("0", "11", "0", "0").all("0", "1").end(check);
        fine("behind all 1", text, Text.letters("aa"));
        // lengths 1, 1, 1: the END has the code of A, which is less
        text = start().blockHead(check, 0, 1).number(1, 3).number(1, 6).bits("0");
        text.number(1, 5).all("0", "0", "0").all("0", "0", "0", "0");
        atLast("the least symbol", text, SortedBlocks.MORE);
    }

    private static void more() {
        Text text = start().letterBlock(0, 0, "10", "10", "10");
        // 1 + 2 + 4 bytes; the next digit makes 15
        atLast("a digit too much", text.bits("10"), SortedBlocks.MORE);
        // 1 + 2 + 4 + 8 = 15, with B at last 23
        text = new Text().head(3).letterBlock(0, 0, "10", "10", "10", "10");
        atLast("too much for level 3", text.bits("11"), SortedBlocks.MORE);
        int check = Model.checkOf(Text.many(8, 0x61));
        text = start().letterBlock(check, 0, "11", "11", "0");
        Due.same("6 bytes are no piece of 8", Due.fed(text.end(0).bytes()).unpack(), SortedBlocks.CHECK);
        for (int level = 1; level <= 8; level++) {
            placesUpTo(level);
        }
        // 8 symbols of one group without an END; the ninth is to be read
        text = new Text().head(8).blockHead(0, 0, 2).number(1, 3).number(1, 6).bits("0");
        text.number(2, 5).all("0", "0", "0", "0");
        for (int i = 0; i < 8; i++) {
            text.bits("10");
        }
        atLast("all groups are full", text.bits("11"), SortedBlocks.MORE);
        fullAtTheEndOfIn();
    }

    /** The letters b and a in turn are places 1 all along. */
    private static void placesUpTo(int level) {
        Text text = new Text().head(level).blockHead(0, 63, 2).number(1, 3).number(63, 6);
        for (int g = 0; g < 63; g++) {
            text.bits("0");
        }
        text.number(2, 5).all("0", "0", "0", "0");
        for (int i = 0; i < 8 * level; i++) {
            text.bits("10");
        }
        Text tooMuch = new Text().bits(bitsOf(text)).bits("10");
        atLast("a place too much for level " + level, tooMuch, SortedBlocks.MORE);
        Text just = new Text().bits(bitsOf(text)).bits("11");
        if (level < 8) {
            atLast("just enough for level " + level, just, SortedBlocks.ORIGIN);
        } else {
            // these 64 bytes end with four letters b
            atLast("just enough for level 8", just, SortedBlocks.LACK);
        }
    }

    private static String bitsOf(Text text) {
        return Model.bitsOf(text.bytes()).substring(0, text.size());
    }

    /** The groups are looked at before the bits of the symbol are. */
    private static void fullAtTheEndOfIn() {
        for (int groups = 1; groups < 9; groups++) {
            Text text = new Text().head(8).blockHead(0, 0, 2).number(1, 3).number(groups, 6);
            for (int g = 0; g < groups; g++) {
                text.bits("0");
            }
            text.number(2, 5).all("0", "0", "0", "0");
            for (int i = 0; i < 8 * groups; i++) {
                text.bits("10");
            }
            if (text.size() % 8 == 0) {
                read("all groups are full at the end of IN", text.bytes(), SortedBlocks.MORE, text.size());
            }
        }
    }

    private static void origin() {
        atLast("origin 1 of 1", start().letterBlock(CHECK_A, 1, "10", "0"), SortedBlocks.ORIGIN);
        atLast("origin 63 of 1", start().letterBlock(CHECK_A, 63, "10", "0"), SortedBlocks.ORIGIN);
        atLast("origin 0 of none", start().letterBlock(0, 0, "0"), SortedBlocks.ORIGIN);
        atLast("origin 4 of a piece", start().letterBlock(0, 4, "11", "10", "0"), SortedBlocks.ORIGIN);
    }

    private static void lack() {
        // 4 is B and A: a piece of four without a byte
        atLast("four", start().letterBlock(0, 0, "11", "10", "0"), SortedBlocks.LACK);
        // 5 is A and B: the fifth letter, 97, says how many more there are
        Text text = start().letterBlock(Model.checkOf(Text.many(101, 97)), 0, "10", "11", "0");
        fine("five", text.end(Model.checkOf(Text.many(101, 97))), Text.many(101, 97));
        // 9 of them are such a piece and four more
        text = new Text().head(2).letterBlock(0, 0, "10", "10", "10");
        Due.same("seven", Due.fed(text.bits("0").bytes()).unpack(), SortedBlocks.CHECK);
        text = new Text().head(2).letterBlock(0, 0, "10", "11", "10");
        atLast("nine", text.bits("0"), SortedBlocks.LACK);
        int ten = Model.checkOf(Text.many(202, 97));
        text = new Text().head(2).letterBlock(ten, 0, "11", "11", "10", "0").end(ten);
        fine("ten", text, Text.many(202, 97));
    }

    /** Any byte may say how many more there are, also those above 251. */
    private static void pieces() {
        for (int more : new int[] {0, 1, 251, 252, 255}) {
            Model.Told b = new Model.Told();
            b.shortened = List.of(7, 7, 7, 7, more, 7, 7);
            List<Integer> bytes = Text.many(4 + more + 2, 7);
            Model.sort(b);
            SortedBlocks x = Due.fed(streamOf(b, Model.checkOf(bytes)));
            Due.same(more + " more", x.unpack(), bytes.size());
            Due.same(more + " more: bytes", Due.out(x), bytes);
        }
    }

    /** Each byte of the column by its place, without digits but for places 0 that stand alone. */
    private static List<Integer> streamOf(Model.Told b, int check) {
        TreeSet<Integer> kinds = new TreeSet<>(b.shortened);
        List<Integer> list = new ArrayList<>(kinds);
        Text text = new Text().head(8).bits(Model.BLOCK).number(check, 16).number(b.origin, 6);
        text.bits(Model.writeMap(kinds)).number(1, 3).number(9, 6).bits("0".repeat(9));
        text.number(8, 5).bits("0".repeat(kinds.size() + 2));
        int zeros = 0;
        for (Integer value : b.column) {
            int p = list.indexOf(value);
            list.add(0, list.remove(p));
            zeros = p == 0 ? zeros + 1 : zeros;
            if (p > 0) {
                putRun(text, zeros);
                zeros = 0;
                text.number(p + 1, 8);
            }
        }
        putRun(text, zeros);
        return text.number(kinds.size() + 1, 8).end(check).bytes();
    }

    private static void putRun(Text text, int zeros) {
        for (int left = zeros; left > 0; left = (left - 1) / 2) {
            text.number(left % 2 == 1 ? 0 : 1, 8);
        }
    }

    private static void check() {
        Text text = start().letterBlock(CHECK_A ^ 1, 0, "10", "0").end(CHECK_A ^ 1);
        read("another check", text.bytes(), SortedBlocks.CHECK, 48);
        // IN ends with the END: the check is looked at, and not the number that is not there
        text = start().letterBlock(CHECK_A ^ 1, 0, "10", "0");
        read("another check and no end", text.bytes(), SortedBlocks.CHECK, 48);
        text = start().letterBlock(CHECK_A, 0, "10", "0");
        int before = text.size();
        text.letterBlock(CHECK_A ^ 0x8000, 0, "10", "0").end(0);
        read("another check of the second", text.bytes(), SortedBlocks.CHECK, before + 24);
    }

    private static void total() {
        atLast("another total", start().letterBlock(CHECK_A, 0, "10", "0").end(CHECK_A ^ 0x8000),
                SortedBlocks.TOTAL);
        atLast("total of none", start().end(1), SortedBlocks.TOTAL);
        atLast("total 0 of one block", start().letterBlock(CHECK_A, 0, "10", "0").end(0),
                SortedBlocks.TOTAL);
        Text text = start().letterBlock(CHECK_A, 0, "10", "0").letterBlock(CHECK_A, 0, "10", "0");
        int turned = (CHECK_A << 1 | CHECK_A >> 15) & 65535;
        Due.same("a 1 is turned round", CHECK_A >> 15, 1);
        fine("total of two", text.end(turned ^ CHECK_A), Text.letters("aa"));
    }

    private static void secondStream() {
        List<Integer> none = List.of(83, 66, 1, 0x17, 0x72, 0x45, 0, 0);
        read("a byte behind a stream", Text.join(none, List.of(0)), SortedBlocks.SHORT, 64);
        read("two bytes behind a stream", Text.join(none, List.of(0, 0)), SortedBlocks.HEAD, 64);
        read("a level behind a stream", Text.join(none, List.of(83, 66, 9)), SortedBlocks.HEAD, 80);
        Text text = start().letterBlock(CHECK_A, 0, "10", "0").end(CHECK_A);
        // a fault in a later stream takes back what the first one has
        read("a fault behind a good stream", Text.join(text.bytes(), List.of(1, 2)), SortedBlocks.HEAD,
                8 * text.bytes().size());
        // each stream has a total of its own
        SortedBlocks x = Due.fed(Text.join(text.bytes(), text.bytes()));
        Due.same("two streams", x.unpack(), 2);
    }
}
