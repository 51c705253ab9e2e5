import java.util.List;

/** Unpacks streams and looks at what is due: bytes, or a fault that leaves all but at() as it was. */
final class Read {
    private Read() {
    }

    static void fault(String what, List<Integer> stream, int fault, int at) {
        SortedBlocks x = Due.busy(stream);
        String before = Seen.butAt(x);
        Due.same(what, x.unpack(), fault);
        Due.same(what + ": at", x.at(), at);
        Due.same(what + ": all else stays", Seen.butAt(x), before);
    }

    /** The last number of the text is the one in which the fault is met, whatever stands behind it. */
    static void faultInLast(String what, Text text, int fault) {
        int at = text.fromBehind(1);
        fault(what, Text.join(text.bytes('1'), Text.many(8, 255)), fault, at);
        fault(what + ", zeros behind", Text.join(text.bytes('0'), Text.many(8, 0)), fault, at);
        if (text.size() % 8 == 0) {
            fault(what + ", nothing behind", text.bytes(), fault, at);
        }
    }

    /** OUT would have more than 2000 bytes. */
    static void tooMuch(String what, List<Integer> stream) {
        SortedBlocks x = Due.busy(stream);
        String before = Seen.butAt(x);
        Due.refused(what, IllegalStateException.class, x::unpack);
        Due.same(what + ": at", x.at(), SortedBlocks.NONE);
        Due.same(what + ": all else stays", Seen.butAt(x), before);
    }

    static SortedBlocks fine(String what, List<Integer> stream, List<Integer> bytes) {
        SortedBlocks x = Due.busy(stream);
        Due.same(what, x.unpack(), bytes.size());
        Due.same(what + ": at", x.at(), SortedBlocks.NONE);
        Due.same(what + ": size", x.size(), bytes.size());
        Due.same(what + ": given", x.given(), stream.size());
        if (bytes.size() <= 300) {
            Due.same(what + ": bytes", Due.out(x), bytes);
        }
        return x;
    }

    /** A stream of one block that stands in the text up to its END. */
    static SortedBlocks fineBlock(String what, Text text, int check, List<Integer> bytes) {
        return fine(what, text.end(check).bytes(), bytes);
    }
}
