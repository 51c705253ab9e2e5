import java.util.List;

/** Promise 7: how codes are read, with CODES of any lengths, and the fault CODE. */
public final class Promise07CodesTest {
    private static final int CHECK_A = Model.checkOf(List.of(97));
    private static final int CHECK_AA = Model.checkOf(List.of(97, 97));

    public static void main(String[] args) {
        Due.runAll(Promise07CodesTest.class);
    }

    /** A block of the letters a .. with one table and one group, up to its table's lengths. */
    private static Text untabled(int check, int letters) {
        return new Text().head(1).blockHead(check, 0, letters).number(1, 3).number(1, 6).bits("0");
    }

    /** A block with one table that has these lengths. */
    private static Text tabled(int check, int... lengths) {
        Text text = untabled(check, lengths.length - 2);
        String table = Model.writeLengths(lengths);
        return text.bits(table.substring(0, 5)).bits(table.substring(5));
    }

    static void equalLengthsBySymbol() {
        // A 00, B 01, END 10
        Read.fineBlock("A", tabled(CHECK_A, 2, 2, 2).all("00", "10"), CHECK_A, List.of(97));
        Read.fineBlock("B", tabled(CHECK_AA, 2, 2, 2).all("01", "10"), CHECK_AA, List.of(97, 97));
    }

    static void shorterLengthsFirst() {
        // B 0, END 10, A 110
        Read.fineBlock("A of 3", tabled(CHECK_A, 3, 1, 2).all("110", "10"), CHECK_A, List.of(97));
        Read.fineBlock("B of 1", tabled(CHECK_AA, 3, 1, 2).all("0", "10"), CHECK_AA, List.of(97, 97));
        // END 0, A 1 and eleven bits 0
        Read.fineBlock("A of 12", tabled(CHECK_A, 12, 12, 1).all("100000000000", "0"), CHECK_A, List.of(97));
        Read.fineBlock("B of 12", tabled(CHECK_AA, 12, 12, 1).all("100000000001", "0"), CHECK_AA,
                List.of(97, 97));
    }

    static void behindAll1ComesAll0OfTheSameLength() {
        // A 0, B 1, END 0: the least one that has the code counts, so that the END never comes
        Text text = tabled(0, 1, 1, 1).all("0", "0", "0", "0");
        Read.faultInLast("the END has the code of A", text, SortedBlocks.MORE);
        // three letters of length 1: A 0, B 1, 2 is 0, 3 is 1, the END is 0
        text = tabled(0, 1, 1, 1, 1, 1).all("1", "1", "1");
        Read.faultInLast("five of length 1", text, SortedBlocks.MORE);
    }

    static void behindAll1ComesAll0OfAGreaterLength() {
        // B 0, END 1, A 00, which is never come to
        Read.fineBlock("A wraps", tabled(CHECK_AA, 2, 1, 1).all("0", "1"), CHECK_AA, List.of(97, 97));
        // A 0, END 1, B 000000000000
        Read.fineBlock("B wraps", tabled(CHECK_A, 1, 12, 1).all("0", "1"), CHECK_A, List.of(97));
    }

    /** Four of length 2 use up all codes, and one of 3 behind them begins again with 000. */
    static void codesBehindAWrapGoOnFromAll0() {
        // letters a, b, c: A 00, B 01, 2 is 10, 3 is 11, the END is 000, hidden by A
        Read.faultInLast("hidden by a shorter one", tabled(0, 2, 2, 2, 2, 3).all("00", "00", "00", "00"),
                SortedBlocks.MORE);
        // lengths 2 1 1 2 2: B 0, 2 is 1, then A 00, 3 is 01, the END is 10: all hidden
        Read.faultInLast("two of length 1 hide all", tabled(0, 2, 1, 1, 2, 2).all("1", "1", "1", "1", "1", "1",
                "1", "1").bits("1"), SortedBlocks.MORE);
    }

    /** With five of length 2 the fifth has the first one's code, and those of 3 begin behind it. */
    static void codesOfAGreaterLengthBehindAWrap() {
        // letters a .. d: symbols 0 .. 5; 00 01 10 11 00, so the END of length 3 is 01 and a 0: hidden by B
        Text text = tabled(0, 2, 2, 2, 2, 2, 3).all("01", "01", "01");
        Read.faultInLast("hidden by B", text, SortedBlocks.MORE);
        // with six of length 2 the END is 01, and that is B
        Read.faultInLast("01 is B", tabled(0, 2, 2, 2, 2, 2, 2).all("01", "01", "01"), SortedBlocks.MORE);
    }

    static void codeIsMetWith12BitsThatAreNone() {
        Read.faultInLast("3 of 0 .. 2", tabled(0, 12, 12, 12).number(3, 12), SortedBlocks.CODE);
        Read.faultInLast("all 1", tabled(0, 12, 12, 12).number(4095, 12), SortedBlocks.CODE);
        Read.faultInLast("no code behind a symbol", tabled(0, 12, 12, 12).number(0, 12).number(4095, 12),
                SortedBlocks.CODE);
        // A 0, B 10, the END 110: 111 and more is none
        Read.faultInLast("no code though all are short", tabled(0, 1, 2, 3).bits("111111111111"),
                SortedBlocks.CODE);
        Read.faultInLast("no code with zeros", tabled(0, 1, 2, 3).bits("111000000000"), SortedBlocks.CODE);
    }

    static void codeTakesThe12thBit() {
        Read.fineBlock("12 bits", tabled(CHECK_A, 12, 12, 12).number(0, 12).number(2, 12), CHECK_A, List.of(97));
        // A 0, B 10, 2 is 110, the END is 111000000000
        Read.fineBlock("the 12th bit of the END", tabled(CHECK_A, 1, 2, 3, 12).all("0", "111000000000"), CHECK_A,
                List.of(97));
        Read.faultInLast("another 12th bit", tabled(CHECK_A, 1, 2, 3, 12).all("0", "111000000001"),
                SortedBlocks.CODE);
    }

    static void eachGroupIsReadWithItsOwnTable() {
        // a column b a b a .. of 14 bytes, and what it is read as
        Model.Told due = new Model.Told();
        for (int i = 0; i < 14; i++) {
            due.column.add(i % 2 == 0 ? 98 : 97);
        }
        Model.unsort(due);
        List<Integer> bytes = Model.lengthen(due, 0);
        int check = Model.checkOf(bytes);
        Text text = new Text().head(2).blockHead(check, 0, 2).number(2, 3).number(2, 6).all("10", "10");
        // table 0: the place 1 is 0, the END 10, A 110, B 111; table 1: symbols 0 .. 3 are 00 .. 11
        text.number(3, 5).all("0", "0", "11", "11", "0", "10", "0");
        text.number(2, 5).all("0", "0", "0", "0");
        // the first group picks table 1, the second one table 0
        text.all("10", "10", "10", "10", "10", "10", "10", "10");
        text.all("0", "0", "0", "0", "0", "0", "10");
        SortedBlocks x = Read.fineBlock("two tables", text, check, bytes);
        Due.same("picks", Due.picks(x), List.of(1, 0));
        Due.same("symbols", Due.symbols(x), Text.join(Text.many(14, 2), List.of(3)));
        Due.same("column", Due.column(x), due.column);
    }
}
