import java.util.ArrayList;
import java.util.List;

/** Promise 7: the faults of a block's symbols and bytes and of the total, MORE to TOTAL. */
public final class Promise07BlockFaultsTest {
    private static final int CHECK_A = Model.checkOf(List.of(97));

    public static void main(String[] args) {
        Due.runAll(Promise07BlockFaultsTest.class);
    }

    private static Text start() {
        return new Text().head(1);
    }

    /** A block of the letters a and b with one table: A 00, B 01, the place 1 is 10, the END 11. */
    private static Text twoLetters(int level, int check, int origin, int groups) {
        Text text = new Text().head(level).blockHead(check, origin, 2).number(1, 3).number(groups, 6);
        return text.bits("0".repeat(groups)).number(2, 5).all("0", "0", "0", "0");
    }

    private static Text repeat(Text text, int n, String code) {
        for (int i = 0; i < n; i++) {
            text.bits(code);
        }
        return text;
    }

    /** What a column of b a b a .. and so on is read as. */
    private static List<Integer> turned(int n, int origin) {
        Model.Told b = new Model.Told();
        for (int i = 0; i < n; i++) {
            b.column.add(i % 2 == 0 ? 98 : 97);
        }
        b.origin = origin;
        Model.unsort(b);
        return Model.lengthen(b, 0);
    }

    // ---- MORE ----

    static void moreIsMetWhenAllGroupsAreFull() {
        for (int groups = 1; groups <= 7; groups++) {
            Text text = repeat(twoLetters(8, 0, 0, groups), 8 * groups, "10");
            Read.faultInLast("a symbol behind " + groups + " groups", text.bits("10"), SortedBlocks.MORE);
            text = repeat(twoLetters(8, 0, 0, groups), 8 * groups, "10");
            Read.faultInLast("the END behind " + groups + " groups", text.bits("11"), SortedBlocks.MORE);
        }
    }

    static void theEndMayBeTheLastOfTheLastGroup() {
        for (int groups = 1; groups <= 7; groups++) {
            int n = 8 * groups - 1;
            List<Integer> bytes = turned(n, 0);
            int check = Model.checkOf(bytes);
            Text text = repeat(twoLetters(8, check, 0, groups), n, "10").bits("11");
            SortedBlocks x = Read.fineBlock("END at the end of " + groups + " groups", text, check, bytes);
            Due.same("symbols", x.block(2), 8 * groups);
        }
    }

    /** The groups are looked at before the bits of the symbol are. */
    static void moreIsMetThoughInEndsThere() {
        int met = 0;
        for (int groups = 1; groups <= 8; groups++) {
            Text text = repeat(twoLetters(8, 0, 0, groups), 8 * groups, "10");
            if (text.size() % 8 == 0) {
                met++;
                Read.fault("full groups at the end of IN", text.bytes(), SortedBlocks.MORE, text.size());
            }
        }
        Due.same("there was such a text", met > 0, true);
    }

    static void moreIsMetBeforeTheCodeIsLookedAt() {
        // all of 12 bits, and behind the group stands none
        Text text = new Text().head(8).blockHead(0, 0, 2).number(1, 3).number(1, 6).bits("0");
        text.number(12, 5).all("0", "0", "0", "0");
        repeat(text, 8, "000000000010");
        Read.faultInLast("no code behind a full group", text.bits("111111111111"), SortedBlocks.MORE);
    }

    static void aPlaceBehind8TimesLevelIsRefused() {
        for (int level = 1; level <= 8; level++) {
            Text text = repeat(twoLetters(level, 0, 0, 63), 8 * level, "10").bits("10");
            Read.faultInLast("a place too much for level " + level, text, SortedBlocks.MORE);
        }
    }

    static void aBlockOf8TimesLevelIsTaken() {
        for (int level = 1; level <= 8; level++) {
            List<Integer> bytes = Text.rising(8 * level);
            SortedBlocks x = Read.fine("full block of level " + level, Text.streamOfForm(level, bytes), bytes);
            Due.same("shortened bytes", x.block(1), 8 * level);
            if (level < 8) {
                bytes = Text.rising(8 * level + 1);
                SortedBlocks y = Due.fed(Text.streamOfForm(level, bytes));
                Due.same("one too much for level " + level, y.unpack(), SortedBlocks.MORE);
                Read.fine("but not for the next level", Text.streamOfForm(level + 1, bytes), bytes);
            }
        }
    }

    static void aRunTakes8TimesLevelAndRefusesOneMore() {
        // digits A A A are 7; with B instead of the first A 8
        int check = Model.checkOf(formBytes(8));
        Text text = start().letterBlock(check, 0, "11", "10", "10", "0");
        Read.fineBlock("8 at level 1", text, check, formBytes(8));
        // 9 is A B A: the last digit makes too many
        Read.faultInLast("9 at level 1", start().letterBlock(0, 0, "10", "11").bits("10"), SortedBlocks.MORE);
        // 10 is B B A
        Read.faultInLast("10 at level 1", start().letterBlock(0, 0, "11", "11").bits("10"), SortedBlocks.MORE);
        // 15 is A A A A, 16 is B A A A, 17 is A B A A
        check = Model.checkOf(formBytes(16));
        text = new Text().head(2).letterBlock(check, 0, "11", "10", "10", "10", "0");
        Read.fineBlock("16 at level 2", text, check, formBytes(16));
        Read.faultInLast("17 at level 2", new Text().head(2).letterBlock(0, 0, "10", "11", "10").bits("10"),
                SortedBlocks.MORE);
        // 63 is A A A A A A, 64 is B A A A A A, 65 is A B A A A A
        check = Model.checkOf(formBytes(63));
        text = new Text().head(8).letterBlock(check, 0, "10", "10", "10", "10", "10", "10", "0");
        Read.fineBlock("63 at level 8", text, check, formBytes(63));
        // 64 are taken, too, and end with four without a byte
        text = new Text().head(8).letterBlock(0, 0, "11", "10", "10", "10", "10", "10", "0");
        Read.faultInLast("64 at level 8", text, SortedBlocks.LACK);
        text = new Text().head(8).letterBlock(0, 0, "10", "11", "10", "10", "10");
        Read.faultInLast("65 at level 8", text.bits("10"), SortedBlocks.MORE);
    }

    /** What so many letters a as a shortened form are read as: each fifth says 97 more. */
    private static List<Integer> formBytes(int n) {
        return Text.many(n / 5 * (4 + 97) + n % 5, 97);
    }

    static void aRunCountsWithEveryDigit() {
        // 1 + 2 + 4 and then 8: too many as soon as the fourth digit is there, whatever comes behind it
        Text text = start().letterBlock(0, 0, "10", "10", "10");
        Read.faultInLast("A as the fourth digit", text.bits("10"), SortedBlocks.MORE);
        text = start().letterBlock(0, 0, "10", "10");
        Read.faultInLast("B as the third digit", text.bits("11"), SortedBlocks.MORE);
        text = new Text().head(3).letterBlock(0, 0, "10", "10", "10", "10");
        Read.faultInLast("B as the fifth digit at level 3", text.bits("11"), SortedBlocks.MORE);
        text = new Text().head(8).letterBlock(0, 0, "11", "11", "11", "11", "11");
        Read.faultInLast("the sixth digit at level 8", text.bits("10"), SortedBlocks.MORE);
    }

    static void aRunAndPlacesTogether() {
        // seven bytes by digits and one by a place are 8; another digit or place is too much
        Text text = twoLetters(1, 0, 0, 2).all("00", "00", "00", "10");
        Read.faultInLast("a place too much", text.bits("10"), SortedBlocks.MORE);
        text = twoLetters(1, 0, 0, 2).all("00", "00", "00", "10");
        Read.faultInLast("a digit too much", text.bits("00"), SortedBlocks.MORE);
        // behind a place the digits begin anew: 1, place, 1, place, 1, place, 1, place
        List<Integer> column = List.of(97, 98, 98, 97, 97, 98, 98, 97);
        Model.Told b = new Model.Told();
        b.column = column;
        Model.unsort(b);
        List<Integer> bytes = Model.lengthen(b, 0);
        int check = Model.checkOf(bytes);
        text = twoLetters(1, check, 0, 2).all("00", "10", "00", "10", "00", "10", "00", "10", "11");
        SortedBlocks x = Read.fineBlock("digits begin anew", text, check, bytes);
        Due.same("column", Due.column(x), column);
    }

    // ---- ORIGIN ----

    static void originTakesTheLastPlaceAndRefusesTheOneBehind() {
        for (int n = 1; n <= 3; n++) {
            String[] codes = n == 1 ? new String[] {"10"} : n == 2 ? new String[] {"11"} : new String[] {"10", "10"};
            int check = Model.checkOf(Text.many(n, 97));
            Text text = start().letterBlock(check, n - 1, codes).bits("0");
            Read.fineBlock("origin " + (n - 1) + " of " + n, text, check, Text.many(n, 97));
            text = start().letterBlock(check, n, codes).bits("0");
            Read.faultInLast("origin " + n + " of " + n, text, SortedBlocks.ORIGIN);
            text = start().letterBlock(check, 63, codes).bits("0");
            Read.faultInLast("origin 63 of " + n, text, SortedBlocks.ORIGIN);
        }
    }

    static void originOfNone() {
        Read.faultInLast("origin 0 of none", start().letterBlock(0, 0, "0"), SortedBlocks.ORIGIN);
        Read.faultInLast("origin 63 of none", start().letterBlock(0xFFFF, 63, "0"), SortedBlocks.ORIGIN);
    }

    static void origin63Of64AndOf63() {
        List<Integer> row = Text.join(List.of(64), Text.rising(63));
        SortedBlocks x = Read.fine("origin 63 of 64", Text.streamOfForm(8, row), row);
        Due.same("origin", x.block(0), 63);
        Model.Told b = Model.blockOfForm(Text.rising(63));
        b.origin = 63;
        List<Integer> stream = new Text().head(8).bits(Model.BLOCK + Model.write(b)).bytes();
        Due.same("origin 63 of 63", Due.fed(stream).unpack(), SortedBlocks.ORIGIN);
        b.origin = 62;
        stream = new Text().head(8).bits(Model.BLOCK + Model.write(b)).bytes();
        Due.same("origin 62 of 63", Due.fed(stream).unpack(), SortedBlocks.CHECK);
    }

    static void originComesBeforeLack() {
        Read.faultInLast("origin 4 of a piece", start().letterBlock(0, 4, "11", "10", "0"), SortedBlocks.ORIGIN);
        Read.faultInLast("origin 3 of a piece", start().letterBlock(0, 3, "11", "10", "0"), SortedBlocks.LACK);
    }

    // ---- LACK ----

    static void lackIsMetWithFourAndNothingBehind() {
        Read.faultInLast("four", start().letterBlock(0, 0, "11", "10", "0"), SortedBlocks.LACK);
        // nine are a piece of four with a byte, and four more
        Read.faultInLast("nine", new Text().head(2).letterBlock(0, 0, "10", "11", "10", "0"), SortedBlocks.LACK);
        // 14 are two such pieces, and four more
        Read.faultInLast("14", new Text().head(2).letterBlock(0, 0, "11", "11", "11", "0"), SortedBlocks.LACK);
        lacks(List.of(1, 2, 2, 2, 2));
        lacks(List.of(2, 2, 2, 2, 0, 2, 2, 2, 2));
        lacks(List.of(2, 2, 2, 2, 3, 3, 3, 3, 3));
        lacks(Text.join(Text.rising(60), Text.many(4, 200)));
    }

    private static void lacks(List<Integer> form) {
        Model.Told b = Model.blockOfForm(form);
        String block = Model.BLOCK + Model.write(b);
        int[] lengths = b.lengths.get(b.picks.get(b.picks.size() - 1));
        int end = 24 + block.length() - lengths[b.kinds + 1];
        Read.fault("lack of " + form, new Text().head(8).bits(block).end(0).bytes(), SortedBlocks.LACK, end);
    }

    static void lackIsNotMetWithThreeOrWithAByteBehind() {
        for (List<Integer> form : List.of(List.of(2, 2, 2), List.of(1, 2, 2, 2), List.of(2, 2, 2, 2, 0),
                List.of(2, 2, 2, 2, 2), List.of(2, 2, 2, 2, 2, 2, 2, 2), List.of(2, 2, 2, 2, 1, 1, 1, 1),
                List.of(2, 2, 2, 2, 0, 2, 2, 2, 2, 0), List.of(0, 0, 0, 0, 0, 0, 0, 0))) {
            Model.Told b = Model.blockOfForm(form);
            Read.fine("form " + form, Text.streamOfForm(8, form), Model.lengthen(b, 0));
        }
    }

    static void lackComesBeforeTheCheck() {
        // the check of four letters, and the one of none
        for (int check : new int[] {Model.checkOf(Text.many(4, 97)), 0xFFFF, 0}) {
            Read.faultInLast("check " + check, start().letterBlock(check, 0, "11", "10", "0"), SortedBlocks.LACK);
        }
    }

    // ---- pieces ----

    static void anyByteSaysHowManyMoreThereAre() {
        for (int more : new int[] {0, 1, 2, 250, 251, 252, 253, 254, 255}) {
            List<Integer> bytes = Text.many(4 + more, 7);
            Read.fine(more + " more", Text.streamOfForm(8, List.of(7, 7, 7, 7, more)), bytes);
            Read.fine(more + " more, and two behind", Text.streamOfForm(8, List.of(7, 7, 7, 7, more, 7, 7)),
                    Text.join(bytes, List.of(7, 7)));
        }
        Read.fine("255 more of 255", Text.streamOfForm(8, Text.many(5, 255)), Text.many(259, 255));
        Read.fine("0 more of 0", Text.streamOfForm(8, Text.many(5, 0)), Text.many(4, 0));
    }

    static void aPieceBeginsAnewBehindThatByte() {
        // it may be followed by the same byte or by itself
        Read.fine("the same three", Text.streamOfForm(8, List.of(7, 7, 7, 7, 0, 7, 7, 7)), Text.many(7, 7));
        Read.fine("the same four", Text.streamOfForm(8, List.of(7, 7, 7, 7, 0, 7, 7, 7, 7, 1)), Text.many(9, 7));
        Read.fine("the number itself", Text.streamOfForm(8, List.of(7, 7, 7, 7, 2, 2, 2, 2)),
                Text.join(Text.many(6, 7), Text.many(3, 2)));
        Read.fine("the number itself four times", Text.streamOfForm(8, List.of(7, 7, 7, 7, 2, 2, 2, 2, 2, 0)),
                Text.join(Text.many(6, 7), Text.many(4, 2)));
        Read.fine("three and three", Text.streamOfForm(8, List.of(1, 1, 1, 2, 2, 2, 1, 1, 1)),
                List.of(1, 1, 1, 2, 2, 2, 1, 1, 1));
    }

    // ---- the last column that is none of a row ----

    static void aColumnOfTwoCircles() {
        // the column a b has f(0) = 0 and f(1) = 1: from origin 0 it is a a, from origin 1 it is b b
        int check = Model.checkOf(Text.letters("aa"));
        Text text = twoLetters(1, check, 0, 1).all("00", "10", "11");
        SortedBlocks x = Read.fineBlock("from origin 0", text, check, Text.letters("aa"));
        Due.same("column", Due.column(x), Text.letters("ab"));
        check = Model.checkOf(Text.letters("bb"));
        text = twoLetters(1, check, 1, 1).all("00", "10", "11");
        Read.fineBlock("from origin 1", text, check, Text.letters("bb"));
    }

    static void bytesOfTheMapThatAreNotInTheColumn() {
        // a and b are in the map, and only a in the block
        Text text = twoLetters(1, CHECK_A, 0, 1).all("00", "11");
        SortedBlocks x = Read.fineBlock("only a", text, CHECK_A, List.of(97));
        Due.same("lengths", Due.lengths(x, 0), List.of(2, 2, 2, 2));
        Due.same("the END", x.symbol(1), 3);
    }

    // ---- CHECK and TOTAL ----

    static void checkIsMetAtTheBlocks16Bits() {
        for (int bit = 0; bit < 16; bit++) {
            Text text = start().letterBlock(CHECK_A ^ 1 << bit, 0, "10", "0").end(CHECK_A ^ 1 << bit);
            Read.fault("another check", text.bytes(), SortedBlocks.CHECK, 48);
        }
        Text text = start().letterBlock(CHECK_A, 0, "10", "0");
        int before = text.size();
        text.letterBlock(CHECK_A ^ 0x8000, 0, "10", "0").end(0);
        Read.fault("another check of the second block", text.bytes(), SortedBlocks.CHECK, before + 24);
        List<Integer> none = List.of(83, 66, 1, 0x17, 0x72, 0x45, 0, 0);
        text = start().letterBlock(CHECK_A ^ 1, 0, "10", "0").end(CHECK_A ^ 1);
        Read.fault("another check in the second stream", Text.join(none, text.bytes()), SortedBlocks.CHECK, 112);
    }

    static void checkIsMetWhenTheEndHasCome() {
        // what stands behind the END is not looked at before the check is
        Text text = start().letterBlock(CHECK_A ^ 1, 0, "10", "0");
        Read.fault("nothing behind the END", text.bytes(), SortedBlocks.CHECK, 48);
        text.number(0, 24);
        Read.fault("no mark behind the END", text.bytes(), SortedBlocks.CHECK, 48);
        // and what stands before it is
        text = start().letterBlock(CHECK_A ^ 1, 1, "10", "0");
        Read.faultInLast("a wrong origin, too", text, SortedBlocks.ORIGIN);
    }

    static void totalIsAnotherOne() {
        for (int bit = 0; bit < 16; bit++) {
            Read.faultInLast("another total of one block",
                    start().letterBlock(CHECK_A, 0, "10", "0").end(CHECK_A ^ 1 << bit), SortedBlocks.TOTAL);
            Read.faultInLast("another total of none", start().end(1 << bit), SortedBlocks.TOTAL);
        }
        Read.faultInLast("total 0 of one block", start().letterBlock(CHECK_A, 0, "10", "0").end(0),
                SortedBlocks.TOTAL);
        Read.faultInLast("total of all 1", start().end(0xFFFF), SortedBlocks.TOTAL);
    }

    static void totalIsTurnedAndXored() {
        Due.same("a 1 is turned round", CHECK_A >> 15, 1);
        int turned = (CHECK_A << 1 | CHECK_A >> 15) & 65535;
        Text text = start().letterBlock(CHECK_A, 0, "10", "0").letterBlock(CHECK_A, 0, "10", "0");
        Read.fineBlock("two blocks", text, turned ^ CHECK_A, Text.letters("aa"));
        text = start().letterBlock(CHECK_A, 0, "10", "0").letterBlock(CHECK_A, 0, "10", "0");
        Read.faultInLast("not turned", text.end(0), SortedBlocks.TOTAL);
        text = start().letterBlock(CHECK_A, 0, "10", "0").letterBlock(CHECK_A, 0, "10", "0");
        Read.faultInLast("shifted out", text.end((CHECK_A << 1 & 65535) ^ CHECK_A), SortedBlocks.TOTAL);
    }

    static void totalIsOfEachStreamAlone() {
        List<Integer> one = start().letterBlock(CHECK_A, 0, "10", "0").end(CHECK_A).bytes();
        Read.fine("two streams", Text.join(one, one), Text.letters("aa"));
        Text text = start().letterBlock(CHECK_A, 0, "10", "0");
        int at = 8 * one.size() + text.size() + 24;
        List<Integer> other = new ArrayList<>(text.end(Model.turn(CHECK_A) ^ CHECK_A).bytes());
        Read.fault("a total of both", Text.join(one, other), SortedBlocks.TOTAL, at);
    }
}
