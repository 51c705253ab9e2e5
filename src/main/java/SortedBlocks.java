import java.util.Arrays;

/**
 * Packs bytes into a stream of bits, block by block: runs are shortened, the bytes of a block are
 * sorted by what follows them, which brings like ones together, and what remains is written in
 * codes of several lengths from several tables. It unpacks such streams, tells the first fault of
 * one that is none, and saves the whole blocks of a damaged one.
 */
public final class SortedBlocks {
    public static final int NONE = -1;
    public static final int SHORT = -2, HEAD = -3, MARK = -4, MAP = -5, TABLES = -6, GROUPS = -7,
            PICK = -8, LENGTH = -9, CODE = -10, MORE = -11, ORIGIN = -12, LACK = -13, CHECK = -14,
            TOTAL = -15;

    /** What reading answers beside the faults: no fault, and OUT would have too many bytes. */
    private static final int FINE = 0, FULL = 1;

    private static final int MOST_GIVEN = 400;
    private static final int MOST_GIVEN_BITS = 8 * MOST_GIVEN;
    private static final int MOST_READ = 2000;
    /**
     * No stream of 400 bytes is longer. The worst is level 6 with 11 blocks: even if all lengths
     * went up and down between 1 and 9, a block would have 3306 bits, and all would have 4554 bytes.
     */
    private static final int MOST_PACKED = 4600;

    private static final int STREAM_MARK = 83 * 256 + 66;
    private static final int BLOCK_MARK = 0x314159;
    private static final int END_MARK = 0x177245;
    private static final int MARK_BITS = 24;
    private static final int MARK_MASK = (1 << MARK_BITS) - 1;
    private static final int CHECK_BITS = 16;
    private static final int ORIGIN_BITS = 6;
    private static final int MAP_BITS = 16;
    private static final int TABLES_BITS = 3;
    private static final int GROUPS_BITS = 6;
    private static final int LENGTH_BITS = 5;

    private static final int MOST_LEVEL = 8;
    private static final int LEVEL_BYTES = 8;
    private static final int MOST_SHORTENED = MOST_LEVEL * LEVEL_BYTES;
    private static final int MOST_SYMBOLS = MOST_SHORTENED + 1;
    private static final int BYTES = 256;
    private static final int PLAIN_PIECE = 4;
    private static final int MOST_PIECE = 255;
    private static final int GROUP = 8;
    private static final int MOST_GROUPS = 63;
    private static final int MOST_TABLES = 4;
    private static final int MOST_LENGTH = 12;
    /** A block has a symbol for each of its bytes, one more since place 0 has two digits, and the END. */
    private static final int EXTRA_SYMBOLS = 2;

    private final Row input = new Row(MOST_GIVEN);
    private final Row output = new Row(MOST_PACKED);
    /** What is read, until it is known that no fault is met. */
    private final Row fresh = new Row(MOST_READ);
    private final BitReader bits = new BitReader(input);
    private final BlockReader reader = new BlockReader(bits);
    private final BlockMaker maker = new BlockMaker();
    private final BlockWriter writer = new BlockWriter(output);
    /** The block that is told of, and the one that is read into, which change places. */
    private Block told = new Block();
    private Block next = new Block();
    private int blockCount = 0;
    private int readCount = 0;
    private int faultAt = NONE;

    public SortedBlocks() {
    }

    public int feed(long bytes, int n) throws IllegalArgumentException, UnsupportedOperationException {
        if (n < 1 || n > 8) {
            throw new IllegalArgumentException("n is not 1 .. 8");
        }
        if (!input.hasRoom(n)) {
            throw new UnsupportedOperationException("IN would have more than 400 bytes");
        }
        for (int k = n - 1; k >= 0; k--) {
            input.add((int) (bytes >>> (8 * k)) & 255);
        }
        return input.count;
    }

    public void keep(int n) throws IllegalArgumentException {
        if (n < 0 || n > input.count) {
            throw new IllegalArgumentException("IN has not so many bytes");
        }
        input.cut(n);
    }

    public void damage(int bit) throws IndexOutOfBoundsException {
        if (bit < 0 || bit >= 8 * input.count) {
            throw new IndexOutOfBoundsException("IN has no such bit");
        }
        input.turnBit(bit);
    }

    public int append() throws UnsupportedOperationException {
        if (!input.hasRoom(output.count)) {
            throw new UnsupportedOperationException("IN would have more than 400 bytes");
        }
        input.addAll(output);
        return input.count;
    }

    public int pack(int level) throws IllegalArgumentException {
        if (level < 1 || level > MOST_LEVEL) {
            throw new IllegalArgumentException("level is not 1 .. 8");
        }
        output.cut(0);
        blockCount = 0;
        writer.writeHead(level);
        int total = 0;
        int from = 0;
        for (int k = 0; k < MOST_GIVEN && from < input.count; k++) {
            from = maker.makeBlock(told, input, from, LEVEL_BYTES * level);
            writer.writeBlock(told);
            total = nextTotal(total, told.check);
            blockCount++;
        }
        writer.writeEnd(total);
        return output.count;
    }

    public int unpack() throws IllegalStateException {
        faultAt = NONE;
        readCount = 0;
        fresh.cut(0);
        bits.goTo(0);
        int fault = readStream();
        for (int k = 1; k < MOST_GIVEN && fault == FINE && !bits.isAtEnd(); k++) {
            fault = readStream();
        }
        if (fault == FULL) {
            throw new IllegalStateException("OUT would have more than 2000 bytes");
        }
        if (fault != FINE) {
            faultAt = bits.began;
            return fault;
        }
        blockCount = readCount;
        if (blockCount > 0) {
            tellNext();
        }
        takeFresh();
        return output.count;
    }

    public int at() {
        return faultAt;
    }

    public int rescue() {
        fresh.cut(0);
        blockCount = 0;
        int from = 0;
        for (int k = 0; k < MOST_GIVEN_BITS && bits.findMark(from); k++) {
            from = bits.place - MARK_BITS + 1;
            if (reader.readBlock(next, MOST_SHORTENED, fresh) == FINE) {
                tellNext();
                blockCount++;
                from = bits.place;
            }
        }
        takeFresh();
        return blockCount;
    }

    public int given() {
        return input.count;
    }

    public int size() {
        return output.count;
    }

    public int out(int i) throws IndexOutOfBoundsException {
        if (i < 0 || i >= output.count) {
            throw new IndexOutOfBoundsException("OUT has no such byte");
        }
        return output.get(i);
    }

    public int blocks() {
        return blockCount;
    }

    public int block(int what) {
        if (blockCount == 0) {
            return NONE;
        }
        switch (what) {
            case 0:
                return told.origin;
            case 1:
                return told.count;
            case 2:
                return told.symbolCount;
            case 3:
                return told.tables;
            case 4:
                return told.check;
            default:
                return NONE;
        }
    }

    public int last(int i) {
        return blockCount > 0 && i >= 0 && i < told.count ? told.column[i] : NONE;
    }

    public int symbol(int i) {
        return blockCount > 0 && i >= 0 && i < told.symbolCount ? told.symbols[i] : NONE;
    }

    public int length(int table, int symbol) {
        boolean there = blockCount > 0 && table >= 0 && table < told.tables
                && symbol >= 0 && symbol < told.symbolKinds();
        return there ? told.lengths[table][symbol] : NONE;
    }

    public int table(int g) {
        return blockCount > 0 && g >= 0 && g < told.groups ? told.picks[g] : NONE;
    }

    /** Answers FINE, the first fault or FULL. */
    private int readStream() {
        int level = readHead();
        if (level < 0) {
            return level;
        }
        int total = 0;
        int mark = bits.takeNumber(MARK_BITS);
        for (int k = 0; k < MOST_GIVEN_BITS && mark == BLOCK_MARK; k++) {
            int fault = reader.readBlock(next, LEVEL_BYTES * level, fresh);
            if (fault != FINE) {
                return fault;
            }
            total = nextTotal(total, next.check);
            readCount++;
            mark = bits.takeNumber(MARK_BITS);
        }
        if (mark != END_MARK) {
            return mark < 0 ? mark : MARK;
        }
        return readTotal(total);
    }

    private int readTotal(int total) {
        int noted = bits.takeNumber(CHECK_BITS);
        if (noted != total) {
            return noted < 0 ? noted : TOTAL;
        }
        bits.skipToByte();
        return FINE;
    }

    /** Answers the level, or the fault. */
    private int readHead() {
        int start = bits.takeNumber(2 * 8);
        if (start != STREAM_MARK) {
            return start < 0 ? start : HEAD;
        }
        int level = bits.takeNumber(8);
        if (level == 0 || level > MOST_LEVEL) {
            return HEAD;
        }
        return level;
    }

    private void tellNext() {
        Block old = told;
        told = next;
        next = old;
    }

    private void takeFresh() {
        output.cut(0);
        output.addAll(fresh);
    }

    private static int nextTotal(int total, int check) {
        return ((total << 1 | total >>> 15) & 0xFFFF) ^ check;
    }

    /** Bit i, from the left, of the 16 bits that say what is in a block. */
    private static int mapBit(int i) {
        return 1 << (MAP_BITS - 1 - i);
    }

    /** The CHECK of the bytes of a row from one place up to another. */
    private static int checkOf(Row row, int from, int to) {
        int check = 0xFFFF;
        for (int i = from; i < to; i++) {
            check ^= row.get(i) << 8;
            for (int k = 0; k < 8; k++) {
                check <<= 1;
                if (check > 0xFFFF) {
                    check = (check & 0xFFFF) ^ 0x1021;
                }
            }
        }
        return check;
    }

    /** A row of bytes that never has more than it was made for. */
    private static final class Row {
        private final int[] items;
        private int count = 0;

        Row(int most) {
            items = new int[most];
        }

        boolean hasRoom(int more) {
            return more <= items.length - count;
        }

        void add(int value) {
            if (count < items.length) {
                items[count] = value;
                count++;
            }
        }

        void addAll(Row other) {
            if (hasRoom(other.count)) {
                System.arraycopy(other.items, 0, items, count, other.count);
                count += other.count;
            }
        }

        void cut(int n) {
            if (n >= 0 && n < count) {
                count = n;
            }
        }

        int get(int i) {
            return i >= 0 && i < count ? items[i] : 0;
        }

        void turnBit(int k) {
            if (k >= 0 && k / 8 < count) {
                items[k / 8] ^= 1 << (7 - k % 8);
            }
        }
    }

    /** Reads a row number by number, and knows where the latest one began. */
    private static final class BitReader {
        private final Row row;
        private int place = 0;
        private int began = 0;

        BitReader(Row row) {
            this.row = row;
        }

        boolean isAtEnd() {
            return place >= 8 * row.count;
        }

        void goTo(int bit) {
            place = bit;
        }

        void skipToByte() {
            place = (place + 7) / 8 * 8;
        }

        void beginNumber() {
            began = place;
        }

        /** Answers a bit of the number that was begun, or SHORT. */
        int takeBit() {
            int i = place / 8;
            if (i < 0 || i >= row.count) {
                return SHORT;
            }
            int bit = row.items[i] >> (7 - place % 8) & 1;
            place++;
            return bit;
        }

        /** Answers a number of n bits, or SHORT. */
        int takeNumber(int n) {
            beginNumber();
            int number = 0;
            for (int k = 0; k < n; k++) {
                int bit = takeBit();
                if (bit < 0) {
                    return bit;
                }
                number = number << 1 | bit;
            }
            return number;
        }

        /** Goes, from a bit on, behind the first mark of a block; answers whether there is one. */
        boolean findMark(int from) {
            goTo(from);
            int seen = 0;
            for (int k = 1; k <= MOST_GIVEN_BITS; k++) {
                int bit = takeBit();
                if (bit < 0) {
                    return false;
                }
                seen = (seen << 1 | bit) & MARK_MASK;
                if (seen == BLOCK_MARK && k >= MARK_BITS) {
                    return true;
                }
            }
            return false;
        }
    }

    /** Writes numbers to a row, bit by bit. */
    private static final class BitWriter {
        private final Row row;
        private int held = 0;
        private int heldBits = 0;

        BitWriter(Row row) {
            this.row = row;
        }

        void put(int number, int n) {
            for (int k = n - 1; k >= 0; k--) {
                putBit(number >> k & 1);
            }
        }

        void fillByte() {
            if (heldBits > 0) {
                put(0, 8 - heldBits);
            }
        }

        private void putBit(int bit) {
            held = held << 1 | bit;
            heldBits++;
            if (heldBits == 8) {
                row.add(held);
                held = 0;
                heldBits = 0;
            }
        }
    }

    /** All that can be told of a block, and its shortened bytes. */
    private static final class Block {
        private int check = 0;
        private int origin = 0;
        /** The shortened bytes, as many as the last column has. */
        private int count = 0;
        private final int[] shortened = new int[MOST_SHORTENED];
        private final int[] column = new int[MOST_SHORTENED];
        /** The bytes that are in the block, by rising numbers. */
        private int kinds = 0;
        private final int[] kindList = new int[BYTES];
        private int symbolCount = 0;
        private final int[] symbols = new int[MOST_SYMBOLS];
        private int tables = 0;
        private final int[][] lengths = new int[MOST_TABLES][BYTES + EXTRA_SYMBOLS];
        private int groups = 0;
        private final int[] picks = new int[MOST_GROUPS];

        int symbolKinds() {
            return kinds + EXTRA_SYMBOLS;
        }

        int endSymbol() {
            return kinds + 1;
        }

        void addKind(int value) {
            if (kinds < BYTES) {
                kindList[kinds] = value;
                kinds++;
            }
        }

        void addShortened(int value) {
            if (count < MOST_SHORTENED) {
                shortened[count] = value;
                count++;
            }
        }

        void addToColumn(int value) {
            if (count < MOST_SHORTENED) {
                column[count] = value;
                count++;
            }
        }

        void addSymbol(int value) {
            if (symbolCount < MOST_SYMBOLS) {
                symbols[symbolCount] = value;
                symbolCount++;
            }
        }

        int pickOfSymbol(int i) {
            int group = i / GROUP;
            return group >= 0 && group < groups ? picks[group] : 0;
        }
    }

    /** A list in which what is used is moved to the front. */
    private static final class MoveList {
        private final int[] items = new int[BYTES];
        private int count = 0;

        void setTo(int[] values, int n) {
            count = Math.min(n, Math.min(values.length, items.length));
            System.arraycopy(values, 0, items, 0, count);
        }

        void setToNumbers(int n) {
            count = Math.min(n, items.length);
            for (int i = 0; i < count; i++) {
                items[i] = i;
            }
        }

        /** Answers the place at which a value stood, and moves it to the front. */
        int moveValue(int value) {
            int place = 0;
            while (place < count - 1 && items[place] != value) {
                place++;
            }
            movePlace(place);
            return place;
        }

        /** Answers the value at a place, and moves it to the front. */
        int movePlace(int place) {
            if (place < 0 || place >= count) {
                return 0;
            }
            int value = items[place];
            System.arraycopy(items, 0, items, 1, place);
            items[0] = value;
            return value;
        }
    }

    /** The CODES for a table of lengths. */
    private static final class Codes {
        /** For each length: its first code, how many have it, and where they begin in the order. */
        private final int[] first = new int[MOST_LENGTH + 1];
        private final int[] many = new int[MOST_LENGTH + 1];
        private final int[] start = new int[MOST_LENGTH + 1];
        /** The symbols by length, equal ones by number. */
        private final int[] order;
        private final int[] codes;

        Codes(int mostSymbols) {
            order = new int[mostSymbols];
            codes = new int[mostSymbols];
        }

        void setTo(int[] lengths, int n) {
            int symbols = Math.min(n, Math.min(lengths.length, order.length));
            countLengths(lengths, symbols);
            placeLengths();
            Arrays.fill(many, 0);
            for (int s = 0; s < symbols; s++) {
                int length = lengths[s];
                if (isLength(length)) {
                    codes[s] = first[length] + many[length] & mask(length);
                    order[start[length] + many[length]] = s;
                    many[length]++;
                }
            }
        }

        int codeOf(int symbol) {
            return symbol >= 0 && symbol < codes.length ? codes[symbol] : 0;
        }

        /** The least symbol whose code are these bits, or NONE. */
        int find(int code, int length) {
            if (!isLength(length)) {
                return NONE;
            }
            int behindFirst = code - first[length] & mask(length);
            return behindFirst < many[length] ? order[start[length] + behindFirst] : NONE;
        }

        private void countLengths(int[] lengths, int symbols) {
            Arrays.fill(many, 0);
            for (int s = 0; s < symbols; s++) {
                if (isLength(lengths[s])) {
                    many[lengths[s]]++;
                }
            }
        }

        /** Lengths that fit no tree can use up all codes: behind all 1 they begin again with all 0. */
        private void placeLengths() {
            int before = 0;
            int code = 0;
            for (int length = 1; length <= MOST_LENGTH; length++) {
                code <<= 1;
                first[length] = code;
                start[length] = before;
                code = code + many[length] & mask(length);
                before += many[length];
            }
        }

        static boolean isLength(int length) {
            return length >= 1 && length <= MOST_LENGTH;
        }

        private static int mask(int length) {
            return (1 << length) - 1;
        }
    }

    /** Finds the LENGTHS for symbols with weights. */
    private static final class Trees {
        private static final int MOST = MOST_SHORTENED + EXTRA_SYMBOLS;

        /** The trees by age: first the symbols, then those made of two. */
        private final int[] weight = new int[2 * MOST];
        private final int[] parent = new int[2 * MOST];
        private final int[] depth = new int[2 * MOST];
        private final int[] symbolsByWeight = new int[MOST];
        private int symbolCount = 0;
        private int nextSymbol = 0;
        private int nextTree = 0;

        void findLengths(int[] weights, int n, int[] lengths) {
            symbolCount = Math.min(Math.min(n, MOST), Math.min(weights.length, lengths.length));
            if (symbolCount < 1) {
                return;
            }
            System.arraycopy(weights, 0, weight, 0, symbolCount);
            sortSymbols();
            joinTrees();
            measureDepths();
            System.arraycopy(depth, 0, lengths, 0, symbolCount);
        }

        private void sortSymbols() {
            for (int s = 0; s < symbolCount; s++) {
                int place = s;
                while (place > 0 && weight[symbolsByWeight[place - 1]] > weight[s]) {
                    symbolsByWeight[place] = symbolsByWeight[place - 1];
                    place--;
                }
                symbolsByWeight[place] = s;
            }
        }

        private void joinTrees() {
            nextSymbol = 0;
            nextTree = symbolCount;
            for (int tree = symbolCount; tree < 2 * symbolCount - 1; tree++) {
                int one = takeFirst(tree);
                int other = takeFirst(tree);
                weight[tree] = weight[one] + weight[other];
                parent[one] = tree;
                parent[other] = tree;
            }
        }

        /**
         * Each tree weighs at least as much as the ones made before it, so the first of all is
         * either the first symbol or the first tree that is left; of equal ones the symbol is older.
         */
        private int takeFirst(int trees) {
            boolean symbolIsLeft = nextSymbol < symbolCount;
            boolean treeIsLeft = nextTree < trees;
            if (symbolIsLeft
                    && (!treeIsLeft || weight[symbolsByWeight[nextSymbol]] <= weight[nextTree])) {
                nextSymbol++;
                return symbolsByWeight[nextSymbol - 1];
            }
            if (!treeIsLeft) {
                return 0;
            }
            nextTree++;
            return nextTree - 1;
        }

        private void measureDepths() {
            int root = 2 * symbolCount - 2;
            depth[root] = 0;
            for (int tree = root - 1; tree >= 0; tree--) {
                depth[tree] = depth[parent[tree]] + 1;
            }
        }
    }

    /** PICKS tables for the groups of a block's symbols. */
    private static final class Picker {
        private static final int ROUNDS = 3;
        private static final int MANY_GROUPS = 4;

        private final Trees trees = new Trees();
        private final int[] weights = new int[MOST_SHORTENED + EXTRA_SYMBOLS];

        void pickTables(Block b) {
            b.groups = (b.symbolCount + GROUP - 1) / GROUP;
            b.tables = b.groups > MANY_GROUPS ? 3 : 2;
            for (int g = 0; g < b.groups; g++) {
                b.picks[g] = g % b.tables;
            }
            for (int round = 0; round < ROUNDS; round++) {
                for (int t = 0; t < b.tables; t++) {
                    weigh(b, t);
                    trees.findLengths(weights, b.symbolKinds(), b.lengths[t]);
                }
                for (int g = 0; g < b.groups; g++) {
                    b.picks[g] = cheapest(b, g);
                }
            }
        }

        private void weigh(Block b, int t) {
            Arrays.fill(weights, 0);
            for (int i = 0; i < b.symbolCount; i++) {
                if (b.pickOfSymbol(i) == t) {
                    weights[b.symbols[i]]++;
                }
            }
            for (int s = 0; s < weights.length; s++) {
                weights[s] = Math.max(weights[s], 1);
            }
        }

        private int cheapest(Block b, int g) {
            int best = 0;
            for (int t = 1; t < b.tables; t++) {
                if (cost(b, g, t) < cost(b, g, best)) {
                    best = t;
                }
            }
            return best;
        }

        private int cost(Block b, int g, int t) {
            int end = Math.min(b.symbolCount, GROUP * (g + 1));
            int cost = 0;
            for (int i = GROUP * g; i < end; i++) {
                cost += b.lengths[t][b.symbols[i]];
            }
            return cost;
        }
    }

    /** Makes blocks of bytes: shortens and sorts them, finds their symbols and tables. */
    private static final class BlockMaker {
        private final int[] order = new int[MOST_SHORTENED];
        private final int[] present = new int[BYTES];
        private final MoveList list = new MoveList();
        private final Picker picker = new Picker();

        /** Makes the block that begins at a byte of a row; answers the byte behind it. */
        int makeBlock(Block b, Row row, int from, int most) {
            int end = shorten(b, row, from, most);
            b.check = checkOf(row, from, end);
            sortRotations(b);
            readOrder(b);
            listKinds(b);
            findSymbols(b);
            picker.pickTables(b);
            return end;
        }

        /** A byte never makes the form shorter, so the first one that does not fit ends the block. */
        private static int shorten(Block b, Row row, int from, int most) {
            b.count = 0;
            int piece = 0;
            for (int i = from; i < row.count; i++) {
                boolean goesOn = i > from && row.get(i) == row.get(i - 1) && piece < MOST_PIECE;
                piece = goesOn ? piece + 1 : 1;
                int cost = piece < PLAIN_PIECE ? 1 : piece == PLAIN_PIECE ? 2 : 0;
                if (b.count + cost > most) {
                    return i;
                }
                if (piece <= PLAIN_PIECE) {
                    b.addShortened(row.get(i));
                }
                if (piece == PLAIN_PIECE) {
                    b.addShortened(0);
                }
                if (piece > PLAIN_PIECE && b.count > 0) {
                    b.shortened[b.count - 1]++;
                }
            }
            return row.count;
        }

        private void sortRotations(Block b) {
            for (int i = 0; i < b.count; i++) {
                int low = 0;
                int high = i;
                while (low < high) {
                    int middle = (low + high) / 2;
                    if (isBefore(b, i, order[middle])) {
                        high = middle;
                    } else {
                        low = middle + 1;
                    }
                }
                System.arraycopy(order, low, order, low + 1, i - low);
                order[low] = i;
            }
        }

        private static boolean isBefore(Block b, int one, int other) {
            for (int k = 0; k < b.count; k++) {
                int x = b.shortened[(one + k) % b.count];
                int y = b.shortened[(other + k) % b.count];
                if (x != y) {
                    return x < y;
                }
            }
            return false;
        }

        private void readOrder(Block b) {
            for (int place = 0; place < b.count; place++) {
                int rotation = order[place];
                if (rotation == 0) {
                    b.origin = place;
                }
                b.column[place] = b.shortened[rotation == 0 ? b.count - 1 : rotation - 1];
            }
        }

        private void listKinds(Block b) {
            Arrays.fill(present, 0);
            for (int i = 0; i < b.count; i++) {
                present[b.column[i]] = 1;
            }
            b.kinds = 0;
            for (int value = 0; value < BYTES; value++) {
                if (present[value] == 1) {
                    b.addKind(value);
                }
            }
        }

        private void findSymbols(Block b) {
            list.setTo(b.kindList, b.kinds);
            b.symbolCount = 0;
            int zeros = 0;
            for (int i = 0; i < b.count; i++) {
                int place = list.moveValue(b.column[i]);
                if (place == 0) {
                    zeros++;
                } else {
                    addRun(b, zeros);
                    zeros = 0;
                    b.addSymbol(place + 1);
                }
            }
            addRun(b, zeros);
            b.addSymbol(b.endSymbol());
        }

        private static void addRun(Block b, int zeros) {
            for (int left = zeros; left > 0; left = (left - 1) / 2) {
                b.addSymbol(left % 2 == 1 ? 0 : 1);
            }
        }
    }

    /** Writes streams, block by block. */
    private static final class BlockWriter {
        private final BitWriter bits;
        private final int[] maps = new int[BYTES / MAP_BITS];
        private final MoveList list = new MoveList();
        private final Codes[] codes = new Codes[MOST_TABLES];

        BlockWriter(Row row) {
            bits = new BitWriter(row);
            for (int t = 0; t < MOST_TABLES; t++) {
                codes[t] = new Codes(MOST_SHORTENED + EXTRA_SYMBOLS);
            }
        }

        void writeHead(int level) {
            bits.put(STREAM_MARK, 2 * 8);
            bits.put(level, 8);
        }

        void writeEnd(int total) {
            bits.put(END_MARK, MARK_BITS);
            bits.put(total, CHECK_BITS);
            bits.fillByte();
        }

        void writeBlock(Block b) {
            bits.put(BLOCK_MARK, MARK_BITS);
            bits.put(b.check, CHECK_BITS);
            bits.put(b.origin, ORIGIN_BITS);
            writeMap(b);
            bits.put(b.tables, TABLES_BITS);
            bits.put(b.groups, GROUPS_BITS);
            writePicks(b);
            for (int t = 0; t < b.tables; t++) {
                writeLengths(b.lengths[t], b.symbolKinds());
                codes[t].setTo(b.lengths[t], b.symbolKinds());
            }
            writeSymbols(b);
        }

        private void writeMap(Block b) {
            Arrays.fill(maps, 0);
            int used = 0;
            for (int i = 0; i < b.kinds; i++) {
                int value = b.kindList[i];
                used |= mapBit(value / MAP_BITS);
                maps[value / MAP_BITS] |= mapBit(value % MAP_BITS);
            }
            bits.put(used, MAP_BITS);
            for (int i = 0; i < maps.length; i++) {
                if (maps[i] != 0) {
                    bits.put(maps[i], MAP_BITS);
                }
            }
        }

        private void writePicks(Block b) {
            list.setToNumbers(b.tables);
            for (int g = 0; g < b.groups; g++) {
                int place = list.moveValue(b.picks[g]);
                for (int k = 0; k < place; k++) {
                    bits.put(1, 1);
                }
                bits.put(0, 1);
            }
        }

        private void writeLengths(int[] lengths, int n) {
            int written = lengths[0];
            bits.put(written, LENGTH_BITS);
            for (int s = 0; s < n; s++) {
                int step = lengths[s] > written ? 2 : 3;
                for (int k = Math.abs(lengths[s] - written); k > 0; k--) {
                    bits.put(step, 2);
                }
                bits.put(0, 1);
                written = lengths[s];
            }
        }

        private void writeSymbols(Block b) {
            for (int i = 0; i < b.symbolCount; i++) {
                int t = b.pickOfSymbol(i);
                int symbol = b.symbols[i];
                bits.put(codes[t].codeOf(symbol), b.lengths[t][symbol]);
            }
        }
    }

    /** Reads blocks; each part answers FINE or the fault that it met. */
    private static final class BlockReader {
        private final BitReader bits;
        private final MoveList list = new MoveList();
        private final Codes[] codes = new Codes[MOST_TABLES];
        private final int[] follower = new int[MOST_SHORTENED];
        private final int[] places = new int[BYTES];
        /** What the next digit of a run of places 0 counts, if it is A. */
        private int digit = 1;

        BlockReader(BitReader bits) {
            this.bits = bits;
            for (int t = 0; t < MOST_TABLES; t++) {
                codes[t] = new Codes(BYTES + EXTRA_SYMBOLS);
            }
        }

        /** Reads what stands behind a block's mark, and appends its bytes to a row if all is well. */
        int readBlock(Block b, int most, Row row) {
            int checkAt = bits.place;
            int before = row.count;
            int fault = readNumbers(b);
            fault = fault == FINE ? readMap(b) : fault;
            fault = fault == FINE ? readCounts(b) : fault;
            fault = fault == FINE ? readPicks(b) : fault;
            fault = fault == FINE ? readTables(b) : fault;
            fault = fault == FINE ? readSymbols(b, most) : fault;
            fault = fault == FINE ? unsort(b) : fault;
            fault = fault == FINE ? lengthen(b, row) : fault;
            if (fault == FINE && checkOf(row, before, row.count) != b.check) {
                bits.began = checkAt;
                fault = CHECK;
            }
            if (fault != FINE) {
                row.cut(before);
            }
            return fault;
        }

        private int readNumbers(Block b) {
            b.check = bits.takeNumber(CHECK_BITS);
            if (b.check < 0) {
                return b.check;
            }
            b.origin = bits.takeNumber(ORIGIN_BITS);
            return b.origin < 0 ? b.origin : FINE;
        }

        private int readMap(Block b) {
            b.kinds = 0;
            int used = bits.takeNumber(MAP_BITS);
            if (used < 0) {
                return used;
            }
            for (int i = 0; i < BYTES / MAP_BITS; i++) {
                if ((used & mapBit(i)) != 0) {
                    int map = bits.takeNumber(MAP_BITS);
                    if (map < 0) {
                        return map;
                    }
                    addKinds(b, MAP_BITS * i, map);
                }
            }
            return b.kinds == 0 ? MAP : FINE;
        }

        private static void addKinds(Block b, int lowest, int map) {
            for (int i = 0; i < MAP_BITS; i++) {
                if ((map & mapBit(i)) != 0) {
                    b.addKind(lowest + i);
                }
            }
        }

        private int readCounts(Block b) {
            b.tables = bits.takeNumber(TABLES_BITS);
            if (b.tables < 0) {
                return b.tables;
            }
            if (b.tables < 1 || b.tables > MOST_TABLES) {
                return TABLES;
            }
            b.groups = bits.takeNumber(GROUPS_BITS);
            if (b.groups < 0) {
                return b.groups;
            }
            return b.groups == 0 ? GROUPS : FINE;
        }

        private int readPicks(Block b) {
            list.setToNumbers(b.tables);
            for (int g = 0; g < b.groups; g++) {
                int place = readPick(b.tables);
                if (place < 0) {
                    return place;
                }
                b.picks[g] = list.movePlace(place);
            }
            return FINE;
        }

        /** Answers the place of the table, or the fault. */
        private int readPick(int tables) {
            bits.beginNumber();
            for (int place = 0; place < tables; place++) {
                int bit = bits.takeBit();
                if (bit <= 0) {
                    return bit < 0 ? bit : place;
                }
            }
            return PICK;
        }

        private int readTables(Block b) {
            for (int t = 0; t < b.tables; t++) {
                int fault = readLengths(b.lengths[t], b.symbolKinds());
                if (fault != FINE) {
                    return fault;
                }
                codes[t].setTo(b.lengths[t], b.symbolKinds());
            }
            return FINE;
        }

        private int readLengths(int[] lengths, int n) {
            int length = bits.takeNumber(LENGTH_BITS);
            if (length >= 0 && !Codes.isLength(length)) {
                return LENGTH;
            }
            for (int s = 0; s < n && length > 0; s++) {
                length = readLength(length);
                lengths[s] = length;
            }
            return length < 0 ? length : FINE;
        }

        /** Answers the length of a symbol, by the one before it, or the fault. */
        private int readLength(int before) {
            int length = before;
            for (int k = 0; k < MOST_GIVEN_BITS; k++) {
                bits.beginNumber();
                int bit = bits.takeBit();
                if (bit <= 0) {
                    return bit < 0 ? bit : length;
                }
                int down = bits.takeBit();
                if (down < 0) {
                    return down;
                }
                length += down == 0 ? 1 : -1;
                if (!Codes.isLength(length)) {
                    return LENGTH;
                }
            }
            return SHORT;
        }

        private int readSymbols(Block b, int most) {
            list.setTo(b.kindList, b.kinds);
            b.symbolCount = 0;
            b.count = 0;
            digit = 1;
            for (int i = 0; i < GROUP * b.groups; i++) {
                int symbol = readSymbol(codes[b.pickOfSymbol(i)]);
                if (symbol < 0) {
                    return symbol;
                }
                b.addSymbol(symbol);
                if (symbol == b.endSymbol()) {
                    return FINE;
                }
                if (!addBytes(b, symbol, most)) {
                    return MORE;
                }
            }
            bits.beginNumber();
            return MORE;
        }

        /** Answers the symbol, or the fault. */
        private int readSymbol(Codes table) {
            bits.beginNumber();
            int code = 0;
            for (int n = 1; n <= MOST_LENGTH; n++) {
                int bit = bits.takeBit();
                if (bit < 0) {
                    return bit;
                }
                code = code << 1 | bit;
                int symbol = table.find(code, n);
                if (symbol >= 0) {
                    return symbol;
                }
            }
            return CODE;
        }

        /** Appends to the last column what a symbol says; answers false when that is too much. */
        private boolean addBytes(Block b, int symbol, int most) {
            boolean isDigit = symbol < 2;
            int many = isDigit ? digit << symbol : 1;
            if (b.count + many > most) {
                return false;
            }
            int value = list.movePlace(isDigit ? 0 : symbol - 1);
            for (int k = 0; k < many; k++) {
                b.addToColumn(value);
            }
            digit = isDigit ? 2 * digit : 1;
            return true;
        }

        private int unsort(Block b) {
            if (b.origin >= b.count) {
                return ORIGIN;
            }
            findFollowers(b);
            int place = b.origin;
            for (int i = 0; i < b.count; i++) {
                place = follower[place];
                b.shortened[i] = b.column[place];
            }
            return FINE;
        }

        private void findFollowers(Block b) {
            Arrays.fill(places, 0);
            for (int i = 0; i < b.count; i++) {
                places[b.column[i]]++;
            }
            int before = 0;
            for (int value = 0; value < BYTES; value++) {
                int many = places[value];
                places[value] = before;
                before += many;
            }
            for (int i = 0; i < b.count; i++) {
                int value = b.column[i];
                follower[places[value]] = i;
                places[value]++;
            }
        }

        /** Undoes the shortening; a piece without its last byte is LACK even if the row is full. */
        private static int lengthen(Block b, Row row) {
            int piece = 0;
            int size = row.count;
            int value = 0;
            for (int i = 0; i < b.count; i++) {
                int many = 1;
                if (piece == PLAIN_PIECE) {
                    many = b.shortened[i];
                    piece = 0;
                } else {
                    piece = piece > 0 && b.shortened[i] == value ? piece + 1 : 1;
                    value = b.shortened[i];
                }
                size += many;
                for (int k = 0; k < many; k++) {
                    row.add(value);
                }
            }
            if (piece == PLAIN_PIECE) {
                return LACK;
            }
            return size > row.items.length ? FULL : FINE;
        }
    }
}
