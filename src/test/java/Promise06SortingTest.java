import java.util.List;

/** Promise 6: SORTING. */
public final class Promise06SortingTest {
    public static void main(String[] args) {
        Due.runAll(Promise06SortingTest.class);
    }

    private static void sorted(List<Integer> bytes, List<Integer> column, int origin) {
        SortedBlocks x = Due.afterPack(bytes, 8);
        Due.same("column of " + bytes, Due.column(x), column);
        Due.same("origin of " + bytes, x.block(0), origin);
    }

    private static void sorted(String letters, String column, int origin) {
        sorted(Text.letters(letters), Text.letters(column), origin);
    }

    static void ordinary() {
        sorted("banana", "nnbaaa", 3);
        sorted("ba", "ba", 1);
        sorted("ab", "ba", 0);
    }

    static void oneByte() {
        sorted("a", "a", 0);
        sorted(List.of(0), List.of(0), 0);
        sorted(List.of(255), List.of(255), 0);
    }

    static void equalRotationsByTheirNumber() {
        sorted("aa", "aa", 0);
        sorted("aaa", "aaa", 0);
        sorted("abab", "bbaa", 0);
        // rotations 1 and 3 come first, then 0 and 2
        sorted("baba", "bbaa", 2);
        sorted("cabcab", "ccaabb", 4);
        // the shortened form of four bytes 0 is five of them
        sorted(Text.many(4, 0), Text.many(5, 0), 0);
    }

    static void rotationsGoRound() {
        // baa, aab, aba are compared with what stands at the beginning, too
        sorted("aab", "baa", 0);
        sorted("aba", "baa", 1);
        sorted("baa", "baa", 2);
    }

    static void bytesAreComparedAs0To255() {
        sorted(List.of(200, 100), List.of(200, 100), 1);
        sorted(List.of(128, 127), List.of(128, 127), 1);
        sorted(List.of(255, 0), List.of(255, 0), 1);
        sorted(List.of(0, 255), List.of(255, 0), 0);
    }

    static void originIsTheFirstOrTheLastPlace() {
        SortedBlocks x = Due.afterPack(Text.rising(64), 8);
        Due.same("origin of a rising row of 64", x.block(0), 0);
        Due.same("first of the column", x.last(0), 63);
        Due.same("last of the column", x.last(63), 62);
        List<Integer> row = Text.join(List.of(64), Text.rising(63));
        SortedBlocks y = Due.afterPack(row, 8);
        Due.same("shortened bytes", y.block(1), 64);
        Due.same("origin of the greatest rotation of 64", y.block(0), 63);
        Due.same("written origin", Model.bitsOf(Due.out(y)).substring(64, 70), "111111");
        SortedBlocks z = Due.fed(Due.packed(row, 8));
        Due.same("unpack", z.unpack(), 64);
        Due.same("first byte", z.out(0), 64);
        Due.same("last byte", z.out(63), 62);
    }
}
