import java.util.ArrayList;
import java.util.List;

/** Promise 6: SHORTENING, and how many bytes a block has. */
public final class Promise06ShorteningTest {
    public static void main(String[] args) {
        Due.runAll(Promise06ShorteningTest.class);
    }

    /** The shortened forms of the blocks that the bytes are packed to, read back by the model. */
    private static List<List<Integer>> forms(List<Integer> bytes, int level) {
        Model m = new Model();
        List<List<Integer>> forms = new ArrayList<>();
        // the model takes a longer IN than the program does
        m.in = Due.packed(bytes, level);
        Due.same("unpacked " + bytes.size() + " bytes", m.unpack(), bytes.size());
        Due.same("bytes again", m.out, bytes);
        for (Model.Told b : m.all) {
            forms.add(b.shortened);
        }
        return forms;
    }

    private static void one(List<Integer> bytes, List<Integer> form) {
        Due.same("form of " + bytes, forms(bytes, 8), List.of(form));
    }

    private static List<Integer> piece(int value, int more) {
        return List.of(value, value, value, value, more);
    }

    static void aPieceOfUpTo3IsWrittenAsItIs() {
        one(Text.many(1, 97), List.of(97));
        one(Text.many(2, 97), List.of(97, 97));
        one(Text.many(3, 97), List.of(97, 97, 97));
    }

    static void aPieceOf4OrMoreHasAByteThatSaysHowMany() {
        one(Text.many(4, 97), piece(97, 0));
        one(Text.many(5, 97), piece(97, 1));
        one(Text.many(6, 97), piece(97, 2));
    }

    static void aPieceHasAtMost255() {
        one(Text.many(254, 97), piece(97, 250));
        one(Text.many(255, 97), piece(97, 251));
        one(Text.many(256, 97), Text.join(piece(97, 251), List.of(97)));
        one(Text.many(258, 97), Text.join(piece(97, 251), List.of(97, 97, 97)));
        one(Text.many(259, 97), Text.join(piece(97, 251), piece(97, 0)));
        one(Text.many(260, 97), Text.join(piece(97, 251), piece(97, 1)));
        one(Text.many(400, 97), Text.join(piece(97, 251), piece(97, 141)));
    }

    static void everyRunIsCutFromItsFirstByteOn() {
        one(Text.join(Text.many(3, 1), Text.many(4, 2), Text.many(3, 1)),
                Text.join(Text.many(3, 1), piece(2, 0), Text.many(3, 1)));
        one(Text.join(Text.many(4, 1), Text.many(4, 2)), Text.join(piece(1, 0), piece(2, 0)));
        one(Text.join(List.of(5), Text.many(257, 6), List.of(5)),
                Text.join(List.of(5), piece(6, 251), List.of(6, 6, 5)));
        one(Text.join(Text.many(2, 1), List.of(2), Text.many(2, 1)), List.of(1, 1, 2, 1, 1));
    }

    static void theByteThatSaysHowManyMayBeTheOneOfTheRun() {
        one(Text.many(9, 5), piece(5, 5));
        one(Text.join(Text.many(9, 5), List.of(6)), Text.join(piece(5, 5), List.of(6)));
        one(Text.many(4, 0), piece(0, 0));
        one(Text.many(255, 251), piece(251, 251));
        // the byte behind the run is the one that says how many
        one(Text.join(Text.many(5, 7), Text.many(3, 1)), Text.join(piece(7, 1), Text.many(3, 1)));
        one(Text.join(Text.many(4, 7), Text.many(4, 0)), Text.join(piece(7, 0), piece(0, 0)));
    }

    static void aBlockHasAtMost8TimesLevelShortenedBytes() {
        for (int level = 1; level <= 8; level++) {
            int most = 8 * level;
            List<Integer> bytes = Text.rising(200);
            Due.same("just full at level " + level, forms(bytes.subList(0, most), level),
                    List.of(bytes.subList(0, most)));
            Due.same("one more at level " + level, forms(bytes.subList(0, most + 1), level),
                    List.of(bytes.subList(0, most), bytes.subList(most, most + 1)));
            Due.same("one less at level " + level, forms(bytes.subList(0, most - 1), level),
                    List.of(bytes.subList(0, most - 1)));
            Due.same("three full ones at level " + level, forms(bytes.subList(0, 3 * most), level),
                    List.of(bytes.subList(0, most), bytes.subList(most, 2 * most),
                            bytes.subList(2 * most, 3 * most)));
        }
    }

    /** Four equal bytes need five: with four left, three are had, and the rest is in the next block. */
    static void aPieceThatIsTooLongIsCutByTheBlock() {
        for (int level = 1; level <= 8; level++) {
            int most = 8 * level;
            for (int left = 0; left <= 6; left++) {
                List<Integer> before = Text.rising(most - left);
                List<Integer> bytes = Text.join(before, Text.many(10, 200));
                // three bytes at most are had as they are, and all ten if there are five left
                int had = left >= 5 ? 10 : Math.min(left, 3);
                List<Integer> first = had == 10 ? piece(200, 6) : Text.many(had, 200);
                List<List<Integer>> due = new ArrayList<>();
                due.add(Text.join(before, first));
                if (had < 10) {
                    due.add(piece(200, 10 - had - 4));
                }
                Due.same(left + " left at level " + level, forms(bytes, level), due);
            }
        }
    }

    static void theLastPieceOfAFullBlockGoesOnUpTo255() {
        List<Integer> before = List.of(1, 2, 3);
        Due.same("254", forms(Text.join(before, Text.many(254, 9)), 1),
                List.of(Text.join(before, piece(9, 250))));
        Due.same("255", forms(Text.join(before, Text.many(255, 9)), 1),
                List.of(Text.join(before, piece(9, 251))));
        Due.same("256", forms(Text.join(before, Text.many(256, 9)), 1),
                List.of(Text.join(before, piece(9, 251)), List.of(9)));
        Due.same("259", forms(Text.join(before, Text.many(259, 9)), 1),
                List.of(Text.join(before, piece(9, 251)), piece(9, 0)));
        Due.same("two pieces of one run", forms(Text.many(258, 9), 1),
                List.of(Text.join(piece(9, 251), Text.many(3, 9))));
        Due.same("two pieces and one too much", forms(Text.many(259, 9), 1),
                List.of(Text.join(piece(9, 251), Text.many(3, 9)), List.of(9)));
    }

    /** A run that the block cuts begins anew: its pieces are counted from there. */
    static void aRunBeginsAnewWithEachBlock() {
        Due.same("400 at level 1", forms(Text.many(400, 9), 1),
                List.of(Text.join(piece(9, 251), Text.many(3, 9)), piece(9, 138)));
        List<Integer> before = Text.rising(6);
        Due.same("two, and then four", forms(Text.join(before, Text.many(6, 9)), 1),
                List.of(Text.join(before, Text.many(2, 9)), piece(9, 0)));
        Due.same("two, and then three", forms(Text.join(before, Text.many(5, 9)), 1),
                List.of(Text.join(before, Text.many(2, 9)), Text.many(3, 9)));
    }

    static void theShortestBlockHasOneByte() {
        SortedBlocks x = Due.afterPack(List.of(77), 8);
        Due.same("blocks", x.blocks(), 1);
        Due.same("shortened bytes", x.block(1), 1);
    }

    static void theMostBlocksOf400Bytes() {
        List<Integer> row = Text.join(Text.rising(200), Text.rising(200));
        for (int level = 1; level <= 8; level++) {
            SortedBlocks x = Due.afterPack(row, level);
            int most = 8 * level;
            Due.same("blocks at level " + level, x.blocks(), (400 + most - 1) / most);
            Due.same("last one at level " + level, x.block(1), (400 - 1) % most + 1);
        }
        // three equal bytes and a piece of five fill a block of level 1
        List<Integer> runs = new ArrayList<>();
        for (int i = 0; i < 50; i++) {
            runs.addAll(List.of(i, i, i, i + 100, i + 100, i + 100, i + 100, i + 100));
        }
        Due.same("forms of runs", forms(runs, 1).subList(0, 2),
                List.of(Text.join(Text.many(3, 0), piece(100, 1)), Text.join(Text.many(3, 1), piece(101, 1))));
    }
}
