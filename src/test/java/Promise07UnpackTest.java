import java.util.ArrayList;
import java.util.List;

/** Promise 7: unpack, its streams, its OUT, and the limit of 2000 bytes. */
public final class Promise07UnpackTest {
    private static final List<Integer> BANANA = Text.letters("banana");
    private static final List<Integer> NONE = List.of(83, 66, 1, 0x17, 0x72, 0x45, 0, 0);
    private static final int CHECK_A = Model.checkOf(List.of(97));

    public static void main(String[] args) {
        Due.runAll(Promise07UnpackTest.class);
    }

    // ---- streams ----

    static void oneStream() {
        SortedBlocks x = Read.fine("banana", Due.packed(BANANA, 1), BANANA);
        Due.same("blocks", x.blocks(), 1);
    }

    static void aStreamWithoutABlock() {
        SortedBlocks x = Read.fine("no block", NONE, List.of());
        Due.toldNothing("no block", x);
        Due.refused("out(0)", IndexOutOfBoundsException.class, () -> x.out(0));
    }

    static void severalStreams() {
        List<Integer> banana = Due.packed(BANANA, 1);
        List<Integer> more = Due.packed(Text.letters("abcdefghijklmnop"), 1);
        SortedBlocks x = Read.fine("several", Text.join(banana, NONE, more, banana),
                Text.letters("bananaabcdefghijklmnopbanana"));
        Due.same("blocks", x.blocks(), 4);
        x = Read.fine("an empty one at last", Text.join(banana, NONE), BANANA);
        Due.same("blocks", x.blocks(), 1);
        Due.same("the block that is told of", Due.column(x), Text.letters("nnbaaa"));
    }

    static void asManyStreamsAsInHolds() {
        List<Integer> all = new ArrayList<>();
        for (int k = 0; k < 50; k++) {
            all.addAll(NONE);
        }
        Due.same("a full IN", all.size(), 400);
        SortedBlocks x = Read.fine("50 streams", all, List.of());
        Due.toldNothing("50 streams", x);
        Read.fault("50 streams but for a byte", all.subList(0, 399), SortedBlocks.SHORT, 49 * 64 + 48);
    }

    static void levelsOfStreamsAreTheirOwn() {
        List<Integer> wide = Text.streamOfForm(2, Text.rising(16));
        List<Integer> narrow = Text.streamOfForm(1, Text.rising(16));
        Read.fine("level 2 behind level 1", Text.join(NONE, wide), Text.rising(16));
        SortedBlocks x = Due.fed(Text.join(wide, narrow));
        Due.same("level 1 behind level 2", x.unpack(), SortedBlocks.MORE);
    }

    static void theBitsBehindTheTotalAreNotLookedAt() {
        for (int groups = 1; groups <= 8; groups++) {
            Text text = new Text().head(1).blockHead(CHECK_A, 0, 1).number(1, 3).number(groups, 6);
            text.bits("0".repeat(groups)).number(2, 5).all("0", "0", "11", "0").all("10", "0").end(CHECK_A);
            int left = (8 - text.size() % 8) % 8;
            Read.fine(left + " bits 1 left", text.bytes('1'), List.of(97));
            Read.fine(left + " bits 0 left", text.bytes('0'), List.of(97));
            Read.fine(left + " bits 1 before another", Text.join(text.bytes('1'), Due.packed(BANANA, 1)),
                    Text.letters("abanana"));
            // a whole byte more is another stream
            Read.fault(left + " bits and a byte", Text.join(text.bytes('1'), List.of(0)), SortedBlocks.SHORT,
                    8 * text.bytes().size());
            Read.fault(left + " bits and two bytes", Text.join(text.bytes('1'), List.of(0, 0)), SortedBlocks.HEAD,
                    8 * text.bytes().size());
        }
    }

    static void aFullInOfPackedBytes() {
        List<Integer> stream = Due.packed(Text.rising(200), 8);
        Due.same("the stream fits", stream.size() <= 400, true);
        Read.fine("200 bytes", stream, Text.rising(200));
        for (int level = 1; level <= 8; level++) {
            Read.fine("400 bytes at level " + level, Due.packed(Text.stairs(400), 8), Text.stairs(400));
        }
    }

    // ---- OUT ----

    static void outStaysWithAFaultHoweverLateItIs() {
        List<Integer> good = Due.packed(Text.letters("abcdefghijklmnop"), 1);
        List<Integer> both = Text.join(good, good);
        int total = Model.bitsOf(both).lastIndexOf(Model.END) + 24;
        List<Integer> wrong = new ArrayList<>(both);
        wrong.set(total / 8, wrong.get(total / 8) ^ 128 >> total % 8);
        Read.fault("another total at last", wrong, SortedBlocks.TOTAL, total);
        Read.fault("cut off in the last total", both.subList(0, total / 8 + 1), SortedBlocks.SHORT, total);
        Read.fault("cut off in the second head", both.subList(0, good.size() + 1), SortedBlocks.SHORT,
                8 * good.size());
    }

    static void outBecomesTheBytesAlone() {
        SortedBlocks x = Due.fed(Due.packed(Text.rising(100), 8));
        Due.same("100 bytes", x.unpack(), 100);
        x.keep(0);
        Due.feed(x, Due.packed(List.of(9), 8));
        Due.same("one byte", x.unpack(), 1);
        Due.same("OUT", Due.out(x), List.of(9));
        Due.same("again", x.unpack(), 1);
        Due.same("OUT again", Due.out(x), List.of(9));
        x.keep(0);
        Due.feed(x, NONE);
        Due.same("no byte", x.unpack(), 0);
        Due.same("size", x.size(), 0);
    }

    static void inStays() {
        List<Integer> stream = Due.packed(BANANA, 1);
        SortedBlocks x = Due.fed(stream);
        x.unpack();
        Due.same("IN", Due.in(x), stream);
        SortedBlocks y = Due.fed(stream.subList(0, 20));
        y.unpack();
        Due.same("IN after a fault", Due.in(y), stream.subList(0, 20));
        List<Integer> tooMuch = blocksOf(400, 400, 400, 400, 400, 1).bytes();
        SortedBlocks z = Due.fed(tooMuch);
        Due.refused("2001 bytes", IllegalStateException.class, z::unpack);
        Due.same("IN after a refusal", Due.in(z), tooMuch);
    }

    // ---- 2000 bytes ----

    private static List<Integer> streams(int bytes) {
        List<Integer> row = new ArrayList<>();
        for (int left = bytes; left > 0; left -= 400) {
            row.addAll(Due.packed(Text.many(Math.min(left, 400), 65), 8));
        }
        return row;
    }

    static void takes2000BytesAndRefuses2001() {
        SortedBlocks x = Read.fine("2000 bytes", streams(2000), Text.many(2000, 65));
        Due.same("first byte", x.out(0), 65);
        Due.same("last byte", x.out(1999), 65);
        Due.refused("out(2000)", IndexOutOfBoundsException.class, () -> x.out(2000));
        Read.tooMuch("2001 bytes", Text.join(streams(2000), Due.packed(List.of(66), 8)));
        Read.fine("1999 bytes and one", Text.join(streams(1999), Due.packed(List.of(66), 8)),
                Text.join(Text.many(1999, 65), List.of(66)));
        Read.tooMuch("1999 bytes and two", Text.join(streams(1999), Due.packed(List.of(66, 67), 8)));
    }

    /** A stream of blocks of level 8 with so many equal bytes each. */
    private static Text blocksOf(int... sizes) {
        Text text = new Text().head(8);
        int total = 0;
        for (int size : sizes) {
            text.bits(Text.block(Text.many(size, 65)));
            total = Model.turn(total) ^ Model.checkOf(Text.many(size, 65));
        }
        return text.end(total);
    }

    static void takes2000BytesOfOneStreamAndRefuses2001() {
        SortedBlocks x = Read.fine("five blocks", blocksOf(400, 400, 400, 400, 400).bytes(), Text.many(2000, 65));
        Due.same("blocks", x.blocks(), 5);
        Read.tooMuch("six blocks", blocksOf(400, 400, 400, 400, 400, 1).bytes());
        Read.tooMuch("the fifth block", blocksOf(400, 400, 400, 400, 401).bytes());
    }

    /** Pieces of 259, and one that makes it so many bytes. */
    private static List<Integer> formOf(int bytes) {
        List<Integer> form = new ArrayList<>();
        int left = bytes;
        while (left > 259) {
            form.addAll(List.of(65, 65, 65, 65, 255));
            left -= 259;
        }
        form.addAll(List.of(65, 65, 65, 65, left - 4));
        return form;
    }

    static void takes2000BytesOfOneBlockAndRefuses2001() {
        Read.fine("1999", Text.streamOfForm(8, formOf(1999)), Text.many(1999, 65));
        Read.fine("2000", Text.streamOfForm(8, formOf(2000)), Text.many(2000, 65));
        Read.tooMuch("2001", Text.streamOfForm(8, formOf(2001)));
        Read.tooMuch("2259", Text.streamOfForm(8, formOf(2259)));
        Read.tooMuch("the most of all", Text.streamOfForm(8, formOf(12 * 259)));
    }

    static void isFoundOutBeforeTheCheck() {
        List<Integer> full = streams(2000);
        List<Integer> one = Due.packed(List.of(66), 8);
        for (int bit = 48; bit < 64; bit++) {
            List<Integer> in = new ArrayList<>(Text.join(full, one));
            int i = full.size() + bit / 8;
            in.set(i, in.get(i) ^ 128 >> bit % 8);
            Read.tooMuch("2001 bytes with a wrong check", in);
        }
    }

    static void isFoundOutWhenTheBlockIsWhole() {
        List<Integer> full = streams(2000);
        Text one = new Text().head(1).letterBlock(CHECK_A, 0, "10", "0");
        Read.tooMuch("nothing behind the END", Text.join(full, one.bytes()));
        Read.tooMuch("no mark behind the END", Text.join(full, one.number(0, 24).bytes()));
        one = new Text().head(1).letterBlock(CHECK_A, 0, "10", "0").end(0);
        Read.tooMuch("a wrong total behind it", Text.join(full, one.bytes()));
        Read.tooMuch("a wrong head behind it", Text.join(full, Due.packed(List.of(66), 8), List.of(1, 2)));
    }

    static void faultsInTheBlockItselfComeFirst() {
        List<Integer> full = streams(2000);
        int from = 8 * full.size();
        Text text = new Text().head(1).letterBlock(0, 1, "10", "0");
        Read.fault("ORIGIN", Text.join(full, text.bytes()), SortedBlocks.ORIGIN, from + text.fromBehind(1));
        text = new Text().head(1).letterBlock(0, 0, "11", "10", "0");
        Read.fault("LACK", Text.join(full, text.bytes()), SortedBlocks.LACK, from + text.fromBehind(1));
        text = new Text().head(1).letterBlock(0, 0, "10", "10", "10", "10");
        Read.fault("MORE", Text.join(full, text.bytes()), SortedBlocks.MORE, from + text.fromBehind(1));
        List<Integer> one = Due.packed(List.of(66), 8);
        Read.fault("SHORT", Text.join(full, one.subList(0, 7)), SortedBlocks.SHORT, from + 48);
        // a piece without its last byte, though the four of it are too many already
        text = new Text().head(1).letterBlock(0, 0, "11", "10", "0");
        Read.fault("LACK with 2003 bytes", Text.join(streams(1999), text.bytes()), SortedBlocks.LACK,
                8 * streams(1999).size() + text.fromBehind(1));
    }

    static void faultsBeforeTheBlockComeFirst() {
        List<Integer> in = new ArrayList<>(Text.join(streams(2000), Due.packed(List.of(66), 8)));
        // the first stream's check
        in.set(6, in.get(6) ^ 1);
        Read.fault("CHECK", in, SortedBlocks.CHECK, 48);
        in.set(6, in.get(6) ^ 1);
        int head = streams(2000).size();
        in.set(head, 0);
        Read.fault("HEAD", in, SortedBlocks.HEAD, 8 * head);
    }

    static void afterARefusalAllCanBeRead() {
        SortedBlocks x = Due.fed(Text.join(streams(2000), Due.packed(List.of(66), 8)));
        Due.refused("2001", IllegalStateException.class, x::unpack);
        Due.refused("2001 again", IllegalStateException.class, x::unpack);
        Due.toldNothing("2001", x);
        Due.same("size", x.size(), 0);
        x.keep(streams(2000).size());
        Due.same("2000", x.unpack(), 2000);
        x.keep(0);
        x.feed(1, 1);
        Due.same("a fault", x.unpack(), SortedBlocks.SHORT);
        Due.same("2000 stay", x.size(), 2000);
        Due.same("blocks stay", x.blocks(), 5);
    }
}
