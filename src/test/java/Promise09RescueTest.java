import java.util.ArrayList;
import java.util.List;

/** Promise 9: rescue. */
public final class Promise09RescueTest {
    private static final List<Integer> BANANA = Text.letters("banana");
    private static final String BLOCK = Text.block(BANANA);

    public static void main(String[] args) {
        Due.runAll(Promise09RescueTest.class);
    }

    private static SortedBlocks rescued(String what, List<Integer> in, int blocks, List<Integer> bytes) {
        SortedBlocks x = Due.busy(in);
        Due.same(what, x.rescue(), blocks);
        Due.same(what + ": size", x.size(), bytes.size());
        if (bytes.size() <= 300) {
            Due.same(what + ": bytes", Due.out(x), bytes);
        }
        Due.same(what + ": blocks", x.blocks(), blocks);
        Due.same(what + ": given", x.given(), in.size());
        Due.same(what + ": at", x.at(), 16);
        if (blocks == 0) {
            Due.toldNothing(what, x);
        }
        return x;
    }

    private static SortedBlocks rescued(String what, Text text, int blocks, String letters) {
        return rescued(what, text.bytes(), blocks, Text.letters(letters));
    }

    /** The block with another check. */
    private static String broken(String block) {
        return block.substring(0, 30) + (block.charAt(30) == '0' ? '1' : '0') + block.substring(31);
    }

    static void ofAnEmptyIn() {
        rescued("empty IN", List.of(), 0, List.of());
        Due.same("new object", new SortedBlocks().rescue(), 0);
    }

    static void outIsEmptyWhenNoneWasTaken() {
        rescued("no mark", Text.stairs(400), 0, List.of());
        rescued("a broken one", new Text().bits(broken(BLOCK)), 0, "");
        rescued("a stream without a block", List.of(83, 66, 1, 0x17, 0x72, 0x45, 0, 0), 0, List.of());
    }

    static void wherever24BitsOfABlockStand() {
        for (int shift = 0; shift <= 16; shift++) {
            rescued("behind " + shift + " bits 1", new Text().bits("1".repeat(shift)).bits(BLOCK).bits("1"), 1,
                    "banana");
            rescued("behind " + shift + " bits 0", new Text().bits("0".repeat(shift)).bits(BLOCK).bits("0"), 1,
                    "banana");
        }
    }

    static void aBlockThatEndsWithIn() {
        int left = (8 - BLOCK.length() % 8) % 8;
        Text text = new Text().bits("0".repeat(left)).bits(BLOCK);
        rescued("the last bit of IN is its last", text, 1, "banana");
        // a bit less
        text = new Text().bits("0".repeat((left + 1) % 8)).bits(BLOCK.substring(0, BLOCK.length() - 1));
        rescued("its last bit is not there", text, 0, "");
    }

    static void theFirstAndTheLastBitsOfAFullIn() {
        String filler = "0".repeat(3200 - BLOCK.length());
        List<Integer> first = new Text().bits(BLOCK).bits(filler).bytes();
        Due.same("full", first.size(), 400);
        rescued("at the first bit of a full IN", first, 1, BANANA);
        rescued("at the last bits of a full IN", new Text().bits(filler).bits(BLOCK).bytes(), 1, BANANA);
        String between = "0".repeat(3200 - 2 * BLOCK.length());
        rescued("both", new Text().bits(BLOCK).bits(between).bits(BLOCK), 2, "bananabanana");
    }

    static void lessThan24Bits() {
        rescued("23 bits of a mark at the end", new Text().bits("0").bits(Model.BLOCK.substring(0, 23)), 0, "");
        rescued("24 bits of a mark and no more", new Text().bits(Model.BLOCK), 0, "");
        rescued("the first bit of the mark is not there", new Text().bits(BLOCK.substring(1)), 0, "");
        for (int bit = 0; bit < 24; bit++) {
            char other = BLOCK.charAt(bit) == '0' ? '1' : '0';
            rescued("another bit " + bit + " of the mark",
                    new Text().bits(BLOCK.substring(0, bit) + other + BLOCK.substring(bit + 1)), 0, "");
        }
    }

    static void neitherHeadNorEndIsLookedAt() {
        List<Integer> stream = Due.packed(BANANA, 1);
        rescued("a whole stream", stream, 1, BANANA);
        rescued("a wrong head", Text.join(List.of(0, 0, 0), stream.subList(3, stream.size())), 1, BANANA);
        rescued("a wrong end", new Text().head(1).bits(BLOCK).number(0, 24).number(7, 16), 1, "banana");
        rescued("a wrong total", new Text().head(1).bits(BLOCK).end(0), 1, "banana");
        rescued("no level at all", new Text().bits(BLOCK), 1, "banana");
        // marks of the end between blocks are passed by
        rescued("several streams", Text.join(stream, stream, stream), 3, Text.join(BANANA, BANANA, BANANA));
    }

    static void isReadAsOneOfLevel8() {
        List<Integer> wide = Text.rising(64);
        rescued("64 bytes behind a head of level 1", new Text().head(1).bits(Text.block(wide)).bytes(), 1, wide);
        rescued("64 bytes behind a head of level 0", new Text().head(0).bits(Text.block(wide)).bytes(), 1, wide);
        Model.Told b = Model.blockOf(Text.rising(65));
        rescued("65 bytes", new Text().head(8).bits(Model.BLOCK + Model.write(b)).bytes(), 0, List.of());
    }

    static void goesOnBehindTheLastBitOfATakenOne() {
        rescued("two without a bit between them", new Text().bits(BLOCK).bits(Text.block("xyz")), 2, "bananaxyz");
        rescued("two with a bit between them", new Text().bits(BLOCK).bits("0").bits(Text.block("xyz")), 2,
                "bananaxyz");
    }

    /** The mark ends with its first three bits, so that one can begin in another's last ones. */
    static void aTakenOneSharesNoBitWithTheNext() {
        Due.same("the first three bits are the last", Model.BLOCK.startsWith(Model.BLOCK.substring(21)), true);
        // A is 000, the END 001, B 0100: the last bits are the first three of a mark
        int check = Model.checkOf(List.of(97));
        Text text = new Text().blockHead(check, 0, 1).number(1, 3).number(1, 6).bits("0");
        text.number(3, 5).all("0", "10", "0", "11", "0").all("000", "001");
        text.bits(BLOCK.substring(3));
        rescued("the next one's mark begins in the END", text, 1, "a");
        // with another check the first one is not taken, and then the next one is
        text = new Text().blockHead(check ^ 1, 0, 1).number(1, 3).number(1, 6).bits("0");
        text.number(3, 5).all("0", "10", "0", "11", "0").all("000", "001");
        text.bits(BLOCK.substring(3));
        rescued("the first one is broken", text, 1, "banana");
    }

    static void goesOnOneBitBehindTheFirstOfABrokenOne() {
        rescued("behind another mark", new Text().bits(Model.BLOCK).bits(BLOCK), 1, "banana");
        rescued("behind three marks", new Text().bits(Model.BLOCK.repeat(3)).bits(BLOCK), 1, "banana");
        rescued("in the last bits of another mark", new Text().bits(Model.BLOCK).bits(BLOCK.substring(3)), 1,
                "banana");
        rescued("behind the check of another", new Text().bits(BLOCK.substring(0, 40)).bits(BLOCK), 1, "banana");
        rescued("in a full IN of marks", new Text().bits(Model.BLOCK.repeat(125)).bits(BLOCK), 1, "banana");
    }

    static void goodOnesBesideBrokenOnes() {
        rescued("the middle one is broken", new Text().bits(Text.block("abc")).bits(broken(BLOCK))
                .bits(Text.block("cab")), 2, "abccab");
        rescued("the first one is broken", new Text().bits(broken(BLOCK)).bits(Text.block("cab")), 1, "cab");
        rescued("the last one is broken", new Text().bits(Text.block("cab")).bits(broken(BLOCK)), 1, "cab");
    }

    /** Each fault that can be met in a block lets it be passed by, and the one behind it is taken. */
    static void everyFaultInABlock() {
        Text map = new Text().bits(Model.BLOCK).number(0, 16).number(0, 6).number(0, 16);
        passedBy("MAP", map);
        passedBy("TABLES", new Text().blockHead(0, 0, 1).number(0, 3));
        passedBy("GROUPS", new Text().blockHead(0, 0, 1).number(1, 3).number(0, 6));
        passedBy("PICK", new Text().blockHead(0, 0, 1).number(1, 3).number(1, 6).bits("1"));
        passedBy("LENGTH", new Text().blockHead(0, 0, 1).number(1, 3).number(1, 6).bits("0").number(0, 5));
        Text code = new Text().blockHead(0, 0, 1).number(1, 3).number(1, 6).bits("0").number(12, 5);
        passedBy("CODE", code.all("0", "0", "0").number(4095, 12));
        passedBy("MORE", new Text().letterBlock(0, 0, "10", "10", "10", "10", "10", "10", "10", "10"));
        passedBy("ORIGIN", new Text().letterBlock(0, 1, "10", "0"));
        passedBy("LACK", new Text().letterBlock(0, 0, "11", "10", "0"));
        passedBy("CHECK", new Text().letterBlock(0, 0, "10", "0"));
    }

    private static void passedBy(String fault, Text text) {
        String bits = Model.bitsOf(text.bytes()).substring(0, text.size());
        SortedBlocks x = Due.fed(new Text().head(8).bits(bits).bits(BLOCK).bytes());
        Due.same(fault + " is met", x.unpack(), faultOf(fault));
        rescued(fault, text.bits(BLOCK), 1, "banana");
    }

    private static int faultOf(String name) {
        List<String> names = List.of("MAP", "TABLES", "GROUPS", "PICK", "LENGTH", "CODE", "MORE", "ORIGIN", "LACK",
                "CHECK");
        return SortedBlocks.MAP - names.indexOf(name);
    }

    static void tellsOfTheLastOneTaken() {
        SortedBlocks x = Due.fed(new Text().bits(BLOCK).bits(Text.block("xyz").substring(0, 100)).bytes());
        Due.same("one whole, one cut off", x.rescue(), 1);
        SortedBlocks packed = Due.afterPack(BANANA, 1);
        Due.same("told", Seen.told(x), Seen.told(packed));
        Text three = new Text().bits(Text.block("xyz")).bits(BLOCK).bits(broken(Text.block("xyz")));
        SortedBlocks y = Due.fed(three.bytes());
        Due.same("two whole, one broken", y.rescue(), 2);
        Due.same("origin", y.block(0), 3);
        Due.same("column", Due.column(y), Text.letters("nnbaaa"));
    }

    /** A whole block in the codes of another, which is only found when the outer one is broken. */
    static void aBlockInsideAnotherOne() {
        String inner = Text.block("a");
        List<Integer> symbols = Model.bytesOf(inner + "0".repeat((8 - inner.length() % 8) % 8));
        List<Integer> bytes = readWith254Bytes(symbols);
        Text outer = new Text().bits(Model.BLOCK).number(Model.checkOf(bytes), 16).number(0, 6).number(65535, 16);
        for (int i = 0; i < 16; i++) {
            outer.number(i == 15 ? 0xFFFC : 0xFFFF, 16);
        }
        // one table with all lengths 8: with 254 bytes, each symbol s is written as the 8 bits of s
        outer.number(1, 3).number(63, 6).bits("0".repeat(63)).number(8, 5).bits("0".repeat(256));
        for (int s : symbols) {
            outer.number(s, 8);
        }
        outer.number(255, 8);
        rescued("outer block", outer.bytes(), 1, bytes);
        List<Integer> damaged = new ArrayList<>(outer.bytes());
        damaged.set(3, damaged.get(3) ^ 128);
        rescued("inner block", damaged, 1, List.of(97));
    }

    private static List<Integer> readWith254Bytes(List<Integer> symbols) {
        Model.Told b = new Model.Told();
        List<Integer> list = new ArrayList<>(Text.rising(254));
        int digit = 1;
        for (int s : symbols) {
            int many = s < 2 ? digit << s : 1;
            digit = s < 2 ? 2 * digit : 1;
            if (s > 1) {
                list.add(0, list.remove(s - 1));
            }
            b.column.addAll(Text.many(many, list.get(0)));
        }
        Due.same("the inner one fits", b.column.size() <= 64 && !symbols.contains(255), true);
        Model.unsort(b);
        return Model.lengthen(b, 0);
    }

    // ---- 2000 bytes ----

    private static Text blocksOf(int... sizes) {
        Text text = new Text();
        for (int size : sizes) {
            text.bits(Text.block(Text.many(size, 65)));
        }
        return text;
    }

    static void takesUpTo2000Bytes() {
        SortedBlocks x = rescued("2000", blocksOf(400, 400, 400, 400, 400).bytes(), 5, Text.many(2000, 65));
        Due.same("last byte", x.out(1999), 65);
        x = rescued("1999 and one", blocksOf(400, 400, 400, 400, 399).bits(Text.block("z")).bytes(), 6,
                Text.join(Text.many(1999, 65), List.of(122)));
        Due.same("last byte", x.out(1999), 122);
    }

    static void aBlockThatMakesItMoreIsNotTaken() {
        rescued("2001", blocksOf(400, 400, 400, 400, 400, 1).bytes(), 5, Text.many(2000, 65));
        rescued("1999 and two", blocksOf(400, 400, 400, 400, 399, 2).bytes(), 5, Text.many(1999, 65));
        SortedBlocks x = rescued("a smaller one behind it",
                blocksOf(400, 400, 400, 400, 399, 2).bits(Text.block("z")).bytes(), 6,
                Text.join(Text.many(1999, 65), List.of(122)));
        Due.same("last byte", x.out(1999), 122);
        Due.same("what is told", x.last(0), 122);
        x = rescued("one too much at last", blocksOf(400, 400, 400, 400, 400).bits(Text.block("z")).bytes(), 5,
                Text.many(2000, 65));
        Due.same("what is told", x.block(4), Model.checkOf(Text.many(400, 65)));
    }

    static void aBlockOfMoreThan2000IsNotTaken() {
        List<Integer> form = new ArrayList<>();
        for (int k = 0; k < 7; k++) {
            form.addAll(List.of(65, 65, 65, 65, 255));
        }
        List<Integer> just = Text.join(form, List.of(65, 65, 65, 65, 183));
        rescued("one of 2000", new Text().bits(Text.blockOfForm(just)).bytes(), 1, Text.many(2000, 65));
        List<Integer> over = Text.join(form, List.of(65, 65, 65, 65, 184));
        rescued("one of 2001", new Text().bits(Text.blockOfForm(over)).bytes(), 0, List.of());
        rescued("one of 2001 and a good one", new Text().bits(Text.blockOfForm(over)).bits(BLOCK).bytes(), 1, BANANA);
    }

    static void outBecomesTheBytesAlone() {
        SortedBlocks x = Due.fed(blocksOf(400, 400, 400, 400, 400).bytes());
        x.rescue();
        Due.same("2000", x.size(), 2000);
        Due.same("again", x.rescue(), 5);
        Due.same("2000 again", x.size(), 2000);
        x.keep(0);
        Due.feed(x, new Text().bits(BLOCK).bytes());
        Due.same("banana", x.rescue(), 1);
        Due.same("bytes", Due.out(x), BANANA);
        x.keep(0);
        Due.same("none", x.rescue(), 0);
        Due.same("size", x.size(), 0);
    }

    static void inStays() {
        List<Integer> in = new Text().bits("1").bits(BLOCK).bytes();
        SortedBlocks x = Due.fed(in);
        x.rescue();
        Due.same("IN", Due.in(x), in);
    }
}
