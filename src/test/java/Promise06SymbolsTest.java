import java.util.ArrayList;
import java.util.List;

/** Promise 6: SYMBOLS. */
public final class Promise06SymbolsTest {
    private static final int A = 0, B = 1;

    public static void main(String[] args) {
        Due.runAll(Promise06SymbolsTest.class);
    }

    private static void symbols(List<Integer> bytes, List<Integer> due) {
        Due.same("symbols of " + bytes, Due.symbols(Due.afterPack(bytes, 8)), due);
    }

    static void ordinary() {
        symbols(Text.letters("banana"), List.of(3, 0, 3, 3, 1, 4));
    }

    static void oneKindOfByteHasOnlyDigits() {
        symbols(List.of(7), List.of(A, 2));
        symbols(List.of(7, 7), List.of(B, 2));
        symbols(List.of(7, 7, 7), List.of(A, A, 2));
        symbols(Text.many(4, 0), List.of(A, B, 2));
    }

    /** The letters a and b in turn have a column of all b and then all a, with runs of any length. */
    static void runsOfEveryLength() {
        List<List<Integer>> digits = List.of(List.of(), List.of(A), List.of(B), List.of(A, A),
                List.of(B, A), List.of(A, B), List.of(B, B), List.of(A, A, A), List.of(B, A, A),
                List.of(A, B, A), List.of(B, B, A), List.of(A, A, B), List.of(B, A, B),
                List.of(A, B, B), List.of(B, B, B), List.of(A, A, A, A));
        for (int r = 0; r < digits.size(); r++) {
            symbols(turns(r + 1), Text.join(List.of(2), digits.get(r), List.of(2), digits.get(r), List.of(3)));
        }
        symbols(turns(31), Text.join(List.of(2), List.of(B, B, B, B), List.of(2), List.of(B, B, B, B), List.of(3)));
        symbols(turns(32), Text.join(List.of(2), Text.many(5, A), List.of(2), Text.many(5, A), List.of(3)));
    }

    private static List<Integer> turns(int n) {
        List<Integer> row = new ArrayList<>();
        for (int i = 0; i < n; i++) {
            row.addAll(List.of(97, 98));
        }
        return row;
    }

    static void runsBetweenPlacesAndAtTheEnd() {
        // the column is b a a
        symbols(Text.letters("aab"), List.of(2, 2, A, 3));
        // b b a
        symbols(Text.letters("abb"), List.of(2, A, 2, 3));
        // 1 1 0 0 0
        symbols(List.of(0, 0, 1, 0, 1), List.of(2, A, 2, B, 3));
        // 9 5 9 9 5 5
        symbols(List.of(5, 5, 9, 5, 9, 9), List.of(2, 2, 2, A, 2, A, 3));
    }

    static void theGreatestPlaceAndTheEnd() {
        // a rising row: the column is the last byte and then 0, 1, ..
        List<Integer> due = new ArrayList<>(List.of(64));
        for (int i = 0; i < 63; i++) {
            due.add(i + 2);
        }
        SortedBlocks x = Due.afterPack(Text.rising(64), 8);
        List<Integer> symbols = Due.symbols(x);
        Due.same("symbols of 64 kinds", symbols.size(), 65);
        Due.same("first of them", symbols.get(0), 64);
        Due.same("second of them: 0 is behind 63", symbols.get(1), 2);
        Due.same("third of them: 1 is behind 0 and 63", symbols.get(2), 3);
        Due.same("63rd of them", symbols.get(63), 64);
        Due.same("the END", symbols.get(64), 65);
        Due.same("all of them", symbols, Text.join(due, List.of(65)));
    }

    static void theListHasTheBytesOfTheShortenedForm() {
        // 32 32 32 32 1: two kinds, so the END is 3
        SortedBlocks x = Due.afterPack(Text.many(5, 32), 8);
        Due.same("the END", x.symbol(x.block(2) - 1), 3);
        Due.same("column", Due.column(x), List.of(32, 32, 32, 32, 1));
        Due.same("symbols", Due.symbols(x), List.of(2, A, A, 2, 3));
    }
}
