import java.util.ArrayList;
import java.util.List;

/** The promises one by one, but for the faults, which FaultsTest has. */
public final class PromisesTest {
    private static final List<Integer> BANANA = Text.letters("banana");
    /** Worked out by hand from the document. */
    private static final int BANANA_CHECK = 0x6AB4;

    public static void main(String[] args) {
        newObject();
        feed();
        feedLimits();
        keep();
        damage();
        append();
        packNothing();
        packOneBlock();
        packCutsBlocks();
        packShortens();
        packSorts();
        packPicks();
        packRefuses();
        packWithEveryLevel();
        unpackStreams();
        unpackLimit();
        at();
        rescue();
        rescueSearch();
        rescueLimit();
        countsAndOut();
        blocks();
        toldOfPacked();
        toldOfRead();
        toldStaysOnFault();
        Due.end("PromisesTest");
    }

    private static void newObject() {
        SortedBlocks x = new SortedBlocks();
        Due.same("new: given", x.given(), 0);
        Due.same("new: size", x.size(), 0);
        Due.same("new: at", x.at(), SortedBlocks.NONE);
        toldNothing("new", x);
        Due.refused("new: out(0)", IndexOutOfBoundsException.class, () -> x.out(0));
        Due.refused("new: damage(0)", IndexOutOfBoundsException.class, () -> x.damage(0));
        Due.same("new: append", x.append(), 0);
        Due.same("new: rescue", x.rescue(), 0);
        Due.same("new: unpack", x.unpack(), SortedBlocks.SHORT);
    }

    private static void toldNothing(String when, SortedBlocks x) {
        Due.same(when + ": blocks", x.blocks(), 0);
        for (int what = -1; what <= 5; what++) {
            Due.same(when + ": block " + what, x.block(what), SortedBlocks.NONE);
        }
        Due.same(when + ": last", x.last(0), SortedBlocks.NONE);
        Due.same(when + ": symbol", x.symbol(0), SortedBlocks.NONE);
        Due.same(when + ": length", x.length(0, 0), SortedBlocks.NONE);
        Due.same(when + ": table", x.table(0), SortedBlocks.NONE);
    }

    private static void feed() {
        SortedBlocks x = new SortedBlocks();
        Due.same("feed 3", x.feed(0x1122334455667788L, 3), 3);
        Due.same("feed 8", x.feed(0xF1F2F3F4F5F6F708L, 8), 11);
        Due.same("feed 1", x.feed(-1L, 1), 12);
        Due.same("feed: given", x.given(), 12);
        Due.same("feed: bytes", Due.in(x), List.of(0x66, 0x77, 0x88,
                0xF1, 0xF2, 0xF3, 0xF4, 0xF5, 0xF6, 0xF7, 0x08, 0xFF));
    }

    private static void feedLimits() {
        SortedBlocks x = Due.fed(Text.many(396, 7));
        for (int n : new int[] {0, -1, 9, Integer.MIN_VALUE, Integer.MAX_VALUE}) {
            Due.refused("feed " + n, IllegalArgumentException.class, () -> x.feed(0, n));
        }
        Due.refused("feed over 400", UnsupportedOperationException.class, () -> x.feed(0, 5));
        Due.same("feed: stays", x.given(), 396);
        Due.same("feed up to 400", x.feed(0, 4), 400);
        Due.refused("feed to a full IN", UnsupportedOperationException.class, () -> x.feed(0, 1));
        Due.refused("feed, both wrong", IllegalArgumentException.class, () -> x.feed(0, 9));
        Due.same("feed: still 400", x.given(), 400);
    }

    private static void keep() {
        SortedBlocks x = Due.fed(BANANA);
        Due.refused("keep -1", IllegalArgumentException.class, () -> x.keep(-1));
        Due.refused("keep 7", IllegalArgumentException.class, () -> x.keep(7));
        x.keep(6);
        Due.same("keep all", Due.in(x), BANANA);
        x.keep(4);
        Due.same("keep 4", x.given(), 4);
        x.feed('s', 1);
        Due.same("keep: bytes", Due.in(x), Text.letters("banas"));
        x.keep(0);
        Due.same("keep 0", x.given(), 0);
        Due.refused("keep 1 of none", IllegalArgumentException.class, () -> x.keep(1));
    }

    private static void damage() {
        SortedBlocks x = Due.fed(List.of(0x00, 0xFF, 0x0F));
        Due.refused("damage -1", IndexOutOfBoundsException.class, () -> x.damage(-1));
        Due.refused("damage 24", IndexOutOfBoundsException.class, () -> x.damage(24));
        x.damage(0);
        x.damage(15);
        x.damage(16);
        x.damage(23);
        Due.same("damage: bytes", Due.in(x), List.of(0x80, 0xFE, 0x8E));
        x.damage(0);
        Due.same("damage twice", Due.in(x), List.of(0x00, 0xFE, 0x8E));
        x.keep(2);
        Due.refused("damage what was cut off", IndexOutOfBoundsException.class, () -> x.damage(16));
    }

    private static void append() {
        SortedBlocks x = Due.fed(BANANA);
        x.pack(1);
        List<Integer> packed = Due.out(x);
        Due.same("append", x.append(), 31);
        Due.same("append: OUT stays", Due.out(x), packed);
        Due.same("append: IN", Due.in(x), Text.join(BANANA, packed));

        SortedBlocks y = Due.fed(BANANA);
        y.pack(1);
        Due.feed(y, Text.many(370, 0));
        Due.refused("append over 400", UnsupportedOperationException.class, y::append);
        Due.same("append: IN stays", y.given(), 376);
        y.keep(375);
        Due.same("append up to 400", y.append(), 400);
    }

    private static void packNothing() {
        SortedBlocks x = new SortedBlocks();
        for (int level = 1; level <= 8; level++) {
            Due.same("pack nothing", x.pack(level), 8);
            Due.same("pack nothing: stream", Due.out(x),
                    List.of(83, 66, level, 0x17, 0x72, 0x45, 0, 0));
            toldNothing("pack nothing", x);
        }
    }

    private static void packOneBlock() {
        Text text = new Text().head(1);
        text.bits(Model.BLOCK).number(BANANA_CHECK, 16).number(3, 6);
        text.bits("0000001000000000").bits("0110000000000010");
        text.number(2, 3).number(1, 6).bits("0");
        text.all("00011", "0", "0", "0", "11", "11", "0", "10", "10", "0");
        text.all("00011", "0", "0", "11", "0", "0", "0");
        text.all("0", "100", "0", "0", "101", "111");
        text.end(BANANA_CHECK);
        SortedBlocks x = Due.fed(BANANA);
        Due.same("pack banana", x.pack(1), 25);
        Due.same("pack banana: stream", Due.out(x), text.bytes());
        Due.same("pack banana: IN stays", Due.in(x), BANANA);

        SortedBlocks y = Due.fed(Text.letters("123456789"));
        y.pack(2);
        Due.same("check of 123456789", y.block(4), 0x29B1);
    }

    private static void packCutsBlocks() {
        cut("abcdefgh", 1, 1, 8);
        cut("abcdefghi", 1, 2, 1);
        // four equal bytes need five, so only three of them fit behind four or five others
        cut("abcdeeeee", 1, 2, 2);
        cut("abcdeeee", 1, 2, 1);
        cut("abcdeee", 1, 1, 7);
        cut("abceeee", 1, 1, 8);
        cut("abceeeeeeeee", 1, 1, 8);
        cut("aaaabbbb", 1, 2, 1);
        cut("aaaabbb", 1, 1, 8);
        cut("a".repeat(258), 1, 1, 8);
        cut("a".repeat(259), 1, 2, 1);
        cut("a".repeat(400), 2, 1, 10);
        cut("a".repeat(400), 1, 2, 5);
    }

    private static void cut(String letters, int level, int blocks, int lastCount) {
        SortedBlocks x = Due.fed(Text.letters(letters));
        x.pack(level);
        Due.same("blocks of " + letters, x.blocks(), blocks);
        Due.same("last block of " + letters, x.block(1), lastCount);
        Due.same("unpacked " + letters, Due.in(x), Text.letters(letters));
    }

    private static void packShortens() {
        shortened("aaa", List.of(97, 97, 97));
        shortened("aaaa", List.of(97, 97, 97, 97, 0));
        shortened("aaaaa", List.of(97, 97, 97, 97, 1));
        shortened("aaab", List.of(97, 97, 97, 98));
        shortened("a".repeat(255), List.of(97, 97, 97, 97, 251));
        shortened("a".repeat(256), List.of(97, 97, 97, 97, 251, 97));
        shortened("a".repeat(259), List.of(97, 97, 97, 97, 251, 97, 97, 97, 97, 0));
        shortened("abbbbc", List.of(97, 98, 98, 98, 98, 0, 99));
    }

    /** The shortened bytes are seen by the last column, the sorted row of which they are. */
    private static void shortened(String letters, List<Integer> form) {
        SortedBlocks x = Due.fed(Text.letters(letters));
        x.pack(8);
        Model.Told b = new Model.Told();
        b.shortened = form;
        Model.sort(b);
        Due.same("column of " + letters, column(x), b.column);
        Due.same("origin of " + letters, x.block(0), b.origin);
    }

    private static List<Integer> column(SortedBlocks x) {
        List<Integer> column = new ArrayList<>();
        for (int i = 0; i < x.block(1); i++) {
            column.add(x.last(i));
        }
        return column;
    }

    private static void packSorts() {
        sorted("banana", "nnbaaa", 3);
        sorted("a", "a", 0);
        sorted("ba", "ba", 1);
        // equal rotations stand in the order of their places
        sorted("abab", "bbaa", 0);
        sorted("baba", "bbaa", 2);
        // bytes are compared as 0 .. 255
        SortedBlocks x = Due.fed(List.of(200, 100));
        x.pack(1);
        Due.same("200 behind 100", x.block(0), 1);
        Due.same("200 behind 100: column", column(x), List.of(200, 100));
    }

    private static void sorted(String letters, String column, int origin) {
        SortedBlocks x = Due.fed(Text.letters(letters));
        x.pack(1);
        Due.same("column of " + letters, column(x), Text.letters(column));
        Due.same("origin of " + letters, x.block(0), origin);
    }

    private static void packPicks() {
        // 31 symbols beside the END are the most for 4 groups
        tables(31, 4, 2);
        tables(32, 5, 3);
        tables(7, 1, 2);
        tables(8, 2, 2);
    }

    private static void tables(int distinct, int groups, int tables) {
        List<Integer> row = new ArrayList<>();
        for (int i = 0; i < distinct; i++) {
            row.add(distinct - i);
        }
        SortedBlocks x = Due.fed(row);
        x.pack(8);
        // all of a falling row are at place 0 or far back, so each byte is a symbol
        Due.same("symbols of " + distinct, x.block(2) > 8 * (groups - 1), true);
        Due.same("tables of " + distinct, x.block(3), tables);
        Due.same("last group of " + distinct, x.table(groups - 1) >= 0, true);
        Due.same("no group more of " + distinct, x.table(groups), SortedBlocks.NONE);
    }

    private static void packRefuses() {
        SortedBlocks x = Due.fed(BANANA);
        x.pack(1);
        for (int level : new int[] {0, 9, -1, Integer.MAX_VALUE, Integer.MIN_VALUE}) {
            Due.refused("pack " + level, IllegalArgumentException.class, () -> x.pack(level));
        }
        Due.same("pack refused: OUT stays", x.size(), 25);
        Due.same("pack refused: blocks stay", x.blocks(), 1);
        Due.same("pack refused: origin stays", x.block(0), 3);
    }

    private static void packWithEveryLevel() {
        List<Integer> row = new ArrayList<>();
        for (int i = 0; i < 400; i++) {
            row.add(i * i / 7 + i % 5 & 255);
        }
        for (int level = 1; level <= 8; level++) {
            Model m = new Model();
            m.in = row;
            m.pack(level);
            Due.same("pack level " + level, Due.packed(row, level), m.out);
        }
    }

    private static void unpackStreams() {
        List<Integer> banana = Due.packed(BANANA, 1);
        List<Integer> none = Due.packed(List.of(), 5);
        List<Integer> more = Due.packed(Text.letters("abcdefghijklmnop"), 1);
        unpacked("one stream", banana, BANANA, 1);
        unpacked("an empty one", none, List.of(), 0);
        unpacked("two empty ones", Text.join(none, none), List.of(), 0);
        unpacked("several", Text.join(banana, none, more, banana),
                Text.letters("bananaabcdefghijklmnopbanana"), 4);
        Text text = new Text().head(1).letterBlock(Model.checkOf(List.of(97)), 0, "10", "0");
        text.end(Model.checkOf(List.of(97)));
        Due.same("bits are left over", text.size() % 8 == 0, false);
        unpacked("the last bits are not looked at", text.bytes('1'), List.of(97), 1);
        unpacked("nor before another", Text.join(text.bytes('1'), banana),
                Text.letters("abanana"), 2);
    }

    private static void unpacked(String what, List<Integer> stream, List<Integer> bytes, int blocks) {
        SortedBlocks x = Due.fed(stream);
        Due.same(what, x.unpack(), bytes.size());
        Due.same(what + ": bytes", Due.out(x), bytes);
        Due.same(what + ": blocks", x.blocks(), blocks);
        Due.same(what + ": at", x.at(), SortedBlocks.NONE);
        Due.same(what + ": IN stays", x.given(), stream.size());
        if (blocks == 0) {
            toldNothing(what, x);
        }
    }

    private static void unpackLimit() {
        List<Integer> most = Due.packed(Text.many(400, 65), 8);
        List<Integer> one = Due.packed(List.of(66), 8);
        List<Integer> full = Text.join(most, most, most, most, most);
        SortedBlocks x = Due.fed(full);
        Due.same("2000 bytes", x.unpack(), 2000);
        Due.same("2000 bytes: last", x.out(1999), 65);

        SortedBlocks y = Due.fed(BANANA);
        y.pack(1);
        y.keep(2);
        Due.same("a fault before", y.unpack(), SortedBlocks.HEAD);
        y.keep(0);
        Due.feed(y, Text.join(full, one));
        Due.refused("2001 bytes", IllegalStateException.class, y::unpack);
        Due.same("2001 bytes: at", y.at(), SortedBlocks.NONE);
        Due.same("2001 bytes: OUT stays", y.size(), 25);
        Due.same("2001 bytes: blocks stay", y.blocks(), 1);
        Due.same("2001 bytes: column stays", column(y), Text.letters("nnbaaa"));
        // the check stands behind the 16 + 8 + 24 bits of the last stream
        y.damage(8 * full.size() + 50);
        Due.refused("2001 bytes with a wrong check", IllegalStateException.class, y::unpack);
        // the mark of the end and the total have five bytes
        y.keep(y.given() - 5);
        Due.refused("2001 bytes without an end", IllegalStateException.class, y::unpack);
    }

    private static void at() {
        SortedBlocks x = Due.fed(BANANA);
        x.unpack();
        Due.same("at 0", x.at(), 0);
        x.pack(1);
        Due.same("pack leaves at", x.at(), 0);
        x.keep(0);
        x.append();
        x.damage(20);
        Due.same("level 9", x.unpack(), SortedBlocks.HEAD);
        Due.same("at 16", x.at(), 16);
        Due.same("rescue leaves at", x.rescue(), 1);
        Due.same("at 16 still", x.at(), 16);
        x.damage(20);
        x.unpack();
        Due.same("at NONE", x.at(), SortedBlocks.NONE);
    }

    private static String bananaBlock() {
        return Model.BLOCK + Model.write(Model.blockOf(BANANA));
    }

    private static String block(String letters) {
        return Model.BLOCK + Model.write(Model.blockOf(Text.letters(letters)));
    }

    private static void rescue() {
        for (int shift = 0; shift < 9; shift++) {
            Text text = new Text().bits("1".repeat(shift)).bits(bananaBlock()).bits("1");
            rescued("behind " + shift + " bits", text, "banana", 1);
        }
        String broken = bananaBlock().substring(0, 30) + "0" + bananaBlock().substring(31);
        Due.same("another check", broken.equals(bananaBlock()), false);
        rescued("a broken one", new Text().bits(broken), "", 0);
        rescued("two beside a broken one",
                new Text().bits(block("abc")).bits(broken).bits(block("cab")), "abccab", 2);
        rescued("one that ends with IN", endingWithByte(), "banana", 1);
        rescued("nothing", new Text(), "", 0);
        rescued("23 bits of a mark", new Text().bits(Model.BLOCK.substring(0, 23)), "", 0);
        rescued("24 bits of a mark", new Text().bits(Model.BLOCK), "", 0);
        // a level in the stream does not matter
        String wide = "abcdefghijklmnopqrstuvwxyzabcdefghijklmnopqrstuvwxyzabcdefghijkl";
        rescued("64 bytes in a stream of level 1", new Text().head(1).bits(block(wide)), wide, 1);
        rescued("65 bytes are too many", new Text().bits(blockOfForm(wide + "m")), "", 0);
    }

    private static Text endingWithByte() {
        return new Text().bits("0".repeat((8 - bananaBlock().length() % 8) % 8)).bits(bananaBlock());
    }

    private static String blockOfForm(String letters) {
        Model.Told b = Model.blockOf(Text.letters(letters));
        b.origin = b.origin % 64;
        return Model.BLOCK + Model.write(b);
    }

    private static void rescued(String what, Text text, String letters, int blocks) {
        SortedBlocks x = Due.fed(text.bytes());
        x.pack(1);
        Due.same("rescue " + what, x.rescue(), blocks);
        Due.same("rescue " + what + ": bytes", Due.out(x), Text.letters(letters));
        Due.same("rescue " + what + ": blocks", x.blocks(), blocks);
        if (blocks == 0) {
            toldNothing("rescue " + what, x);
        }
    }

    private static void rescueSearch() {
        rescued("behind another mark", new Text().bits(Model.BLOCK).bits(bananaBlock()), "banana", 1);
        rescued("behind three marks",
                new Text().bits(Model.BLOCK.repeat(3)).bits(bananaBlock()), "banana", 1);
        // what is told is the last block that was taken, not the one that was tried last
        SortedBlocks x = Due.fed(new Text().bits(bananaBlock())
                .bits(block("xyz").substring(0, 100)).bytes());
        Due.same("one whole, one cut off", x.rescue(), 1);
        Due.same("one whole: origin", x.block(0), 3);
        Due.same("one whole: column", column(x), Text.letters("nnbaaa"));
        Due.same("one whole: symbol", x.symbol(5), 4);
        Due.same("one whole: length", x.length(0, 3), 1);
        Due.same("one whole: check", x.block(4), BANANA_CHECK);
        innerBlock();
    }

    /** A whole block in the codes of another, which is only found when the outer one is broken. */
    private static void innerBlock() {
        // one table with all lengths 8: for 254 bytes, each symbol s is written as the 8 bits of s
        String inner = block("a");
        Text outer = new Text().bits(Model.BLOCK);
        Model.Told b = new Model.Told();
        List<Integer> symbols = Model.bytesOf(inner + "0".repeat((8 - inner.length() % 8) % 8));
        List<Integer> list = new ArrayList<>();
        for (int i = 0; i < 254; i++) {
            list.add(i);
        }
        int digit = 1;
        for (int s : symbols) {
            int many = s < 2 ? digit << s : 1;
            digit = s < 2 ? 2 * digit : 1;
            if (s > 1) {
                list.add(0, list.remove(s - 1));
            }
            b.column.addAll(Text.many(many, list.get(0)));
        }
        Due.same("the inner one fits", b.column.size() <= 64 && !symbols.contains(255), true);
        Model.unsort(b);
        int check = Model.checkOf(Model.lengthen(b, 0));
        outer.number(check, 16).number(0, 6).number(65535, 16);
        for (int i = 0; i < 16; i++) {
            outer.number(i == 15 ? 0xFFFC : 0xFFFF, 16);
        }
        outer.number(1, 3).number(63, 6).bits("0".repeat(63)).number(8, 5).bits("0".repeat(256));
        for (int s : symbols) {
            outer.number(s, 8);
        }
        outer.number(255, 8);
        SortedBlocks x = Due.fed(outer.bytes());
        Due.same("outer block", x.rescue(), 1);
        Due.same("outer block: bytes", Due.out(x), Model.lengthen(b, 0));
        x.damage(24);
        Due.same("inner block", x.rescue(), 1);
        Due.same("inner block: bytes", Due.out(x), List.of(97));
    }

    private static void rescueLimit() {
        Text text = new Text();
        String most = Model.BLOCK + Model.write(Model.blockOf(Text.many(400, 65)));
        for (int k = 0; k < 4; k++) {
            text.bits(most);
        }
        text.bits(Model.BLOCK + Model.write(Model.blockOf(Text.many(399, 65))));
        text.bits(block("xy")).bits(block("z"));
        SortedBlocks x = Due.fed(text.bytes());
        Due.same("rescue up to 2000", x.rescue(), 6);
        Due.same("rescue up to 2000: size", x.size(), 2000);
        Due.same("rescue up to 2000: last", x.out(1999), (int) 'z');
        Due.same("rescue up to 2000: told", x.last(0), (int) 'z');
    }

    private static void countsAndOut() {
        SortedBlocks x = Due.fed(BANANA);
        Due.same("given", x.given(), 6);
        Due.same("size before pack", x.size(), 0);
        Due.same("size", x.pack(1), x.size());
        Due.same("out 0", x.out(0), 83);
        Due.same("out 24", x.out(24) >= 0, true);
        for (int i : new int[] {-1, 25, Integer.MIN_VALUE, Integer.MAX_VALUE}) {
            Due.refused("out " + i, IndexOutOfBoundsException.class, () -> x.out(i));
        }
        SortedBlocks y = Due.fed(List.of(255, 128, 0));
        Due.same("high bytes", Due.in(y), List.of(255, 128, 0));
    }

    private static void blocks() {
        SortedBlocks x = Due.fed(Text.letters("abcdefghijklmnopqrst"));
        x.pack(1);
        Due.same("blocks packed", x.blocks(), 3);
        x.keep(0);
        x.append();
        x.append();
        x.pack(8);
        int packed = x.blocks();
        x.unpack();
        Due.same("blocks read in all streams", x.blocks(), 6);
        Due.same("blocks packed before", packed > 0, true);
        x.damage(8);
        x.unpack();
        Due.same("blocks stay with a fault", x.blocks(), 6);
        x.damage(30);
        x.rescue();
        Due.same("blocks rescued", x.blocks(), 5);
        x.keep(0);
        x.rescue();
        toldNothing("nothing rescued", x);
    }

    private static void toldOfPacked() {
        SortedBlocks x = Due.fed(BANANA);
        x.pack(1);
        toldOfBanana("packed", x);
        int[][] lengths = {{3, 3, 3, 1, 3}, {3, 3, 2, 2, 2}};
        for (int t = 0; t < 2; t++) {
            for (int s = 0; s < 5; s++) {
                Due.same("length " + t + " " + s, x.length(t, s), lengths[t][s]);
            }
        }
        Due.same("no table 2", x.length(2, 0), SortedBlocks.NONE);
        Due.same("no table -1", x.length(-1, 0), SortedBlocks.NONE);
        Due.same("no symbol 5", x.length(0, 5), SortedBlocks.NONE);
        Due.same("no symbol -1", x.length(0, -1), SortedBlocks.NONE);
        x.keep(0);
        x.append();
        x.unpack();
        toldOfBanana("unpacked", x);
        x.rescue();
        toldOfBanana("rescued", x);
    }

    private static void toldOfBanana(String when, SortedBlocks x) {
        int[] due = {SortedBlocks.NONE, 3, 6, 6, 2, BANANA_CHECK, SortedBlocks.NONE};
        for (int what = -1; what <= 5; what++) {
            Due.same(when + ": block " + what, x.block(what), due[what + 1]);
        }
        Due.same(when + ": block at the edges of int",
                x.block(Integer.MAX_VALUE) + x.block(Integer.MIN_VALUE), -2);
        int[] symbols = {SortedBlocks.NONE, 3, 0, 3, 3, 1, 4, SortedBlocks.NONE};
        int[] column = {SortedBlocks.NONE, 'n', 'n', 'b', 'a', 'a', 'a', SortedBlocks.NONE};
        for (int i = -1; i <= 6; i++) {
            Due.same(when + ": symbol " + i, x.symbol(i), symbols[i + 1]);
            Due.same(when + ": last " + i, x.last(i), column[i + 1]);
        }
        Due.same(when + ": table 0", x.table(0), 0);
        Due.same(when + ": table 1", x.table(1), SortedBlocks.NONE);
        Due.same(when + ": table -1", x.table(-1), SortedBlocks.NONE);
    }

    /** A block that only a reader meets: four tables, more groups than symbols need, bytes not used. */
    private static void toldOfRead() {
        int check = Model.checkOf(Text.letters("bb"));
        Text text = new Text().head(8).blockHead(check, 0, 3).number(4, 3).number(5, 6);
        text.all("1110", "0", "10", "110", "1110");
        for (int t = 0; t < 4; t++) {
            // symbols 0 .. 4; of table 3 the lengths are 1, 12, 12, 2, 3
            text.number(t == 3 ? 1 : 3 + t, 5).bits("0");
            text.all("10".repeat(t == 3 ? 11 : 0) + "0", "0", "11".repeat(t == 3 ? 10 : 0) + "0");
            text.bits(t == 3 ? "100" : "0");
        }
        // codes of table 3: 0, then 10, 110, then 111 and nine bits 0, and the one behind it
        text.all("111000000001", "0", "110").end(check);
        SortedBlocks x = Due.fed(text.bytes());
        Due.same("made block", x.unpack(), 2);
        Due.same("made block: bytes", Due.out(x), Text.letters("bb"));
        Due.same("made block: tables", x.block(3), 4);
        Due.same("made block: symbols", x.block(2), 3);
        int[] picks = {3, 3, 0, 1, 2, SortedBlocks.NONE};
        for (int g = 0; g < picks.length; g++) {
            Due.same("made block: table " + g, x.table(g), picks[g]);
        }
        int[] lengths = {1, 12, 12, 2, 3, SortedBlocks.NONE};
        for (int s = 0; s < lengths.length; s++) {
            Due.same("made block: length 3 " + s, x.length(3, s), lengths[s]);
            Due.same("made block: length 2 " + s, x.length(2, s), s < 5 ? 5 : SortedBlocks.NONE);
        }
        Due.same("made block: no table 4", x.length(4, 0), SortedBlocks.NONE);
    }

    private static void toldStaysOnFault() {
        SortedBlocks x = Due.fed(BANANA);
        x.pack(1);
        x.keep(0);
        x.append();
        x.unpack();
        // a good block of another kind, and behind it one that is cut off
        x.keep(0);
        Due.feed(x, new Text().head(8).bits(block("wxyz")).bits(block("abc").substring(0, 120)).bytes());
        Due.same("a fault in the second block", x.unpack() < 0, true);
        toldOfBanana("after a fault", x);
        Due.same("OUT after a fault", Due.out(x), BANANA);
    }
}
