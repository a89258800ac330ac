/**
 * A store of reads that lie along two references. It is written once, as blocks of bytes with
 * sums on a disk; a query finds what overlaps a region by an index of bins and reads it from there.
 */
public final class BinnedReads {
    public static final int NONE = -1;

    private static final int REFUSED = -1;
    private static final int DAMAGED = -2;
    private static final int NO_READ = -2;
    private static final int NO_PLACE = -3;
    private static final int OUT_OF_ORDER = -4;

    private static final int REFERENCES = 2;
    private static final int PLACES = 4096;
    private static final int MOST_READS = 24;
    private static final int MOST_OPS = 3;
    private static final int MOST_BASES = 24;
    private static final int MOST_LENGTH = 63;

    private static final int KINDS = 4;
    /** The one kind of op that has bases but covers no place. */
    private static final int BASES_ONLY = 1;
    /** The other kind of op that has bases. */
    private static final int BASES_AND_PLACES = 0;

    private static final int WIDE_BIN = 512;
    private static final int NARROW_BIN = 64;
    private static final int FIRST_WIDE_BIN = 1;
    private static final int FIRST_NARROW_BIN = 9;

    // Where the parts of a read's row of bytes stand.
    private static final int ROW_POSITION = 2;
    private static final int ROW_BIN = 4;
    private static final int ROW_OP_COUNT = 5;
    private static final int ROW_BASE_COUNT = 6;
    private static final int ROW_OPS = 7;
    private static final int MOST_ROW = ROW_OPS + MOST_OPS + MOST_BASES / 2;
    private static final int MOST_STREAM = MOST_READS * MOST_ROW;

    private static final int PIECE = 40;
    private static final int BLOCK_HEAD = 7;
    private static final int BLOCK_TAIL = 4;
    private static final int MOST_BLOCKS = (MOST_STREAM + PIECE - 1) / PIECE + 1;
    private static final int MOST_DISK = MOST_STREAM + MOST_BLOCKS * (BLOCK_HEAD + BLOCK_TAIL);
    private static final int MARK_0 = 31;
    private static final int MARK_1 = 139;
    private static final int MARK_2 = 1;
    private static final int SUM_MASK = -306674912;
    private static final int OFFSET_UNIT = 64;

    private final Draft draft;
    private final Stream stream;
    private final Index index;
    private final Disk disk;
    private final Finding finding;

    public BinnedReads() {
        draft = new Draft();
        stream = new Stream();
        index = new Index();
        disk = new Disk();
        finding = new Finding();
    }

    public boolean op(int kind, int length) {
        return draft.appendOp(kind, length);
    }

    public boolean base(int code) {
        return draft.appendBase(code);
    }

    public void scrap() {
        draft.empty();
    }

    public int add(int reference, int position) {
        if (disk.isWritten() || index.isFull()) {
            return REFUSED;
        }
        if (!draft.isRead()) {
            return NO_READ;
        }
        // The position is looked at before the span is added to it, so that no sum wraps round.
        if (!isReference(reference) || position < 0 || position >= PLACES
                || position + draft.span() > PLACES) {
            return NO_PLACE;
        }
        if (index.endsBehind(reference, position)) {
            return OUT_OF_ORDER;
        }
        int end = position + draft.span();
        int bin = binOf(position, end);
        int number = index.append(reference, position, end, bin, stream.length);
        stream.appendRow(draft, reference, position, bin);
        draft.empty();
        return number;
    }

    public int finish() {
        if (disk.isWritten()) {
            return REFUSED;
        }
        disk.write(stream);
        return disk.size;
    }

    public void clear() {
        draft.empty();
        stream.empty();
        index.empty();
        disk.empty();
        finding.empty();
    }

    public boolean turn(int k, int bit) {
        return disk.turnBit(k, bit);
    }

    public int byteAt(int k) {
        return disk.at(k);
    }

    public int check() {
        if (!disk.isWritten()) {
            return REFUSED;
        }
        return disk.areSound(0, disk.blockCount - 1) ? index.count : DAMAGED;
    }

    public int query(int reference, int beg, int end) {
        if (!disk.isWritten() || !isRegion(reference, beg, end)) {
            return REFUSED;
        }
        index.choose(reference, beg, end);
        // All is checked before the old finding is given up: a query that fails changes nothing.
        if (!areChosenSound()) {
            return DAMAGED;
        }
        finding.empty();
        finding.lookedAt = index.chosenCount;
        for (int i = 0; i < index.chosenCount; i++) {
            int read = index.chosen[i];
            if (index.overlaps(read, beg, end)) {
                finding.append(disk, index.starts[read]);
            }
        }
        return finding.count;
    }

    public int looked() {
        return finding.lookedAt;
    }

    public int found(int k, int which) {
        if (!finding.has(k)) {
            return NONE;
        }
        switch (which) {
            case 0:
                return finding.offsets[k];
            case 1:
                return finding.position(k);
            case 2:
                return finding.rows[k][ROW_BIN];
            case 3:
                return finding.end(k);
            case 4:
                return finding.opCount(k);
            case 5:
                return finding.baseCount(k);
            default:
                return NONE;
        }
    }

    public int foundOp(int k, int i) {
        if (!finding.has(k) || i < 0 || i >= finding.opCount(k)) {
            return NONE;
        }
        return finding.rows[k][ROW_OPS + i];
    }

    public int foundBase(int k, int i) {
        if (!finding.has(k) || i < 0 || i >= finding.baseCount(k)) {
            return NONE;
        }
        int pair = finding.rows[k][ROW_OPS + finding.opCount(k) + i / 2];
        return i % 2 == 0 ? pair >>> 4 : pair & 15;
    }

    private boolean areChosenSound() {
        int next = 0;
        for (int i = 0; i < index.chosenCount; i++) {
            int start = index.starts[index.chosen[i]];
            int last = start + stream.rowLength(start) - 1;
            // Reads stand in order, so a block that an earlier one shares has been checked.
            int from = Math.max(next, start / PIECE);
            if (!disk.areSound(from, last / PIECE)) {
                return false;
            }
            next = last / PIECE + 1;
        }
        return true;
    }

    private static boolean isReference(int reference) {
        return reference >= 0 && reference < REFERENCES;
    }

    private static boolean isRegion(int reference, int beg, int end) {
        return isReference(reference) && beg >= 0 && end <= PLACES && beg < end;
    }

    private static int binOf(int beg, int end) {
        int last = end - 1;
        if (beg / NARROW_BIN == last / NARROW_BIN) {
            return FIRST_NARROW_BIN + beg / NARROW_BIN;
        }
        if (beg / WIDE_BIN == last / WIDE_BIN) {
            return FIRST_WIDE_BIN + beg / WIDE_BIN;
        }
        return 0;
    }

    private static boolean binMeets(int bin, int beg, int end) {
        int binBeg = 0;
        int binEnd = PLACES;
        if (bin >= FIRST_NARROW_BIN) {
            binBeg = NARROW_BIN * (bin - FIRST_NARROW_BIN);
            binEnd = binBeg + NARROW_BIN;
        } else if (bin >= FIRST_WIDE_BIN) {
            binBeg = WIDE_BIN * (bin - FIRST_WIDE_BIN);
            binEnd = binBeg + WIDE_BIN;
        }
        return binBeg < end && beg < binEnd;
    }

    /** An op is kept as it is written: 4 * length + kind. */
    private static int kindOf(int op) {
        return op % KINDS;
    }

    private static int lengthOf(int op) {
        return op / KINDS;
    }

    private static int spanOf(int[] ops, int from, int count) {
        int span = 0;
        for (int i = 0; i < count && from + i < ops.length; i++) {
            int op = ops[from + i];
            if (kindOf(op) != BASES_ONLY) {
                span += lengthOf(op);
            }
        }
        return span;
    }

    /** The ops and bases of the read that will be added next. */
    private static final class Draft {
        final int[] ops = new int[MOST_OPS];
        final int[] bases = new int[MOST_BASES];
        int opCount;
        int baseCount;

        boolean appendOp(int kind, int length) {
            if (kind < 0 || kind >= KINDS || length < 1 || length > MOST_LENGTH
                    || opCount >= MOST_OPS) {
                return false;
            }
            ops[opCount++] = KINDS * length + kind;
            return true;
        }

        boolean appendBase(int code) {
            if (code < 0 || code > 15 || baseCount >= MOST_BASES) {
                return false;
            }
            bases[baseCount++] = code;
            return true;
        }

        void empty() {
            opCount = 0;
            baseCount = 0;
        }

        int span() {
            return spanOf(ops, 0, opCount);
        }

        int width() {
            int width = 0;
            for (int i = 0; i < opCount; i++) {
                if (kindOf(ops[i]) == BASES_AND_PLACES || kindOf(ops[i]) == BASES_ONLY) {
                    width += lengthOf(ops[i]);
                }
            }
            return width;
        }

        boolean isRead() {
            return opCount > 0 && span() > 0 && width() == baseCount;
        }

        /** Two bases in one byte; 0 in place of a second one that is not there. */
        int basePair(int first) {
            int second = first + 1 < baseCount ? bases[first + 1] : 0;
            return 16 * bases[first] + second;
        }
    }

    /** The rows of all reads, one after the other, not yet cut into blocks. */
    private static final class Stream {
        final int[] bytes = new int[MOST_STREAM];
        int length;

        void empty() {
            length = 0;
        }

        void appendRow(Draft draft, int reference, int position, int bin) {
            int start = length;
            appendByte(0);
            appendByte(reference);
            appendByte(position & 255);
            appendByte(position >>> 8);
            appendByte(bin);
            appendByte(draft.opCount);
            appendByte(draft.baseCount);
            for (int i = 0; i < draft.opCount; i++) {
                appendByte(draft.ops[i]);
            }
            for (int i = 0; i < draft.baseCount; i += 2) {
                appendByte(draft.basePair(i));
            }
            if (start < bytes.length) {
                bytes[start] = length - start - 1;
            }
        }

        int rowLength(int start) {
            return start < 0 || start >= length ? 0 : bytes[start] + 1;
        }

        private void appendByte(int value) {
            if (length < bytes.length) {
                bytes[length++] = value;
            }
        }
    }

    /** Where each read lies and where its row starts; and which reads a query looks at. */
    private static final class Index {
        final int[] references = new int[MOST_READS];
        final int[] positions = new int[MOST_READS];
        final int[] ends = new int[MOST_READS];
        final int[] bins = new int[MOST_READS];
        final int[] starts = new int[MOST_READS];
        int count;
        final int[] chosen = new int[MOST_READS];
        int chosenCount;

        void empty() {
            count = 0;
            chosenCount = 0;
        }

        boolean isFull() {
            return count >= MOST_READS;
        }

        boolean endsBehind(int reference, int position) {
            if (count == 0) {
                return false;
            }
            int last = count - 1;
            return reference < references[last]
                    || (reference == references[last] && position < positions[last]);
        }

        int append(int reference, int position, int end, int bin, int start) {
            if (isFull()) {
                return NONE;
            }
            references[count] = reference;
            positions[count] = position;
            ends[count] = end;
            bins[count] = bin;
            starts[count] = start;
            return count++;
        }

        void choose(int reference, int beg, int end) {
            chosenCount = 0;
            int first = firstEndingAfter(reference, NARROW_BIN * (beg / NARROW_BIN));
            for (int read = first; read < count; read++) {
                if (references[read] == reference && binMeets(bins[read], beg, end)) {
                    chosen[chosenCount++] = read;
                }
            }
        }

        boolean overlaps(int read, int beg, int end) {
            return positions[read] < end && beg < ends[read];
        }

        /** The number of reads when there is none, so that no read is at or behind it. */
        private int firstEndingAfter(int reference, int place) {
            for (int read = 0; read < count; read++) {
                if (references[read] == reference && ends[read] > place) {
                    return read;
                }
            }
            return count;
        }
    }

    /** The blocks, one behind the other, of which one bit may be turned. */
    private static final class Disk {
        final int[] bytes = new int[MOST_DISK];
        final int[] blockStarts = new int[MOST_BLOCKS];
        /** 0 while nothing is written: a written disk has one block at least. */
        int size;
        int blockCount;
        /** 8 * the byte + the bit that is turned, or NONE. */
        int turned = NONE;

        void empty() {
            size = 0;
            blockCount = 0;
            turned = NONE;
        }

        boolean isWritten() {
            return size > 0;
        }

        void write(Stream stream) {
            for (int from = 0; from < stream.length; from += PIECE) {
                appendBlock(stream, from, Math.min(PIECE, stream.length - from));
            }
            appendBlock(stream, stream.length, 0);
        }

        int at(int k) {
            return k < 0 || k >= size ? NONE : bytes[k];
        }

        boolean turnBit(int k, int bit) {
            if (k < 0 || k >= size || bit < 0 || bit > 7) {
                return false;
            }
            int wanted = 8 * k + bit;
            if (turned != NONE && turned != wanted) {
                return false;
            }
            bytes[k] ^= 1 << bit;
            turned = turned == NONE ? wanted : NONE;
            return true;
        }

        boolean areSound(int firstBlock, int lastBlock) {
            for (int block = firstBlock; block <= lastBlock; block++) {
                if (!isSound(block)) {
                    return false;
                }
            }
            return true;
        }

        /** The byte of the stream, read from the piece that has it. */
        int streamByte(int place) {
            int block = place / PIECE;
            if (place < 0 || block >= blockCount) {
                return 0;
            }
            return Math.max(0, at(blockStarts[block] + BLOCK_HEAD + place % PIECE));
        }

        int offsetOf(int place) {
            int block = place / PIECE;
            if (place < 0 || block >= blockCount) {
                return NONE;
            }
            return OFFSET_UNIT * blockStarts[block] + place % PIECE;
        }

        private void appendBlock(Stream stream, int from, int count) {
            if (blockCount < blockStarts.length) {
                blockStarts[blockCount++] = size;
            }
            appendByte(MARK_0);
            appendByte(MARK_1);
            appendByte(MARK_2);
            appendNumber(count, 2);
            appendNumber(~count, 2);
            int piece = size;
            for (int i = from; i < from + count && i < stream.length; i++) {
                appendByte(stream.bytes[i]);
            }
            appendNumber(sumOf(piece, count), 4);
        }

        private void appendNumber(int number, int byteCount) {
            for (int i = 0; i < byteCount; i++) {
                appendByte((number >>> (8 * i)) & 255);
            }
        }

        private void appendByte(int value) {
            if (size < bytes.length) {
                bytes[size++] = value;
            }
        }

        private boolean isSound(int block) {
            if (block < 0 || block >= blockCount) {
                return false;
            }
            int start = blockStarts[block];
            if (at(start) != MARK_0 || at(start + 1) != MARK_1 || at(start + 2) != MARK_2) {
                return false;
            }
            int count = numberAt(start + 3, 2);
            if (numberAt(start + 5, 2) != (~count & 65535)) {
                return false;
            }
            int piece = start + BLOCK_HEAD;
            return piece + count + BLOCK_TAIL <= size
                    && numberAt(piece + count, BLOCK_TAIL) == sumOf(piece, count);
        }

        private int numberAt(int place, int byteCount) {
            int number = 0;
            for (int i = 0; i < byteCount; i++) {
                number |= (at(place + i) & 255) << (8 * i);
            }
            return number;
        }

        private int sumOf(int from, int count) {
            int c = -1;
            for (int i = from; i < from + count; i++) {
                c ^= at(i) & 255;
                for (int step = 0; step < 8; step++) {
                    c = (c & 1) == 1 ? (c >>> 1) ^ SUM_MASK : c >>> 1;
                }
            }
            return ~c;
        }
    }

    /** What the latest query found: copies of rows, which later damage of the disk leaves alone. */
    private static final class Finding {
        final int[][] rows = new int[MOST_READS][MOST_ROW];
        final int[] offsets = new int[MOST_READS];
        int count;
        int lookedAt;

        void empty() {
            count = 0;
            lookedAt = 0;
        }

        boolean has(int k) {
            return k >= 0 && k < count;
        }

        void append(Disk disk, int start) {
            if (count >= MOST_READS) {
                return;
            }
            int[] row = rows[count];
            int length = Math.min(MOST_ROW, disk.streamByte(start) + 1);
            for (int i = 0; i < length; i++) {
                row[i] = disk.streamByte(start + i);
            }
            offsets[count] = disk.offsetOf(start);
            count++;
        }

        int position(int k) {
            return rows[k][ROW_POSITION] + 256 * rows[k][ROW_POSITION + 1];
        }

        int end(int k) {
            return position(k) + spanOf(rows[k], ROW_OPS, opCount(k));
        }

        int opCount(int k) {
            return rows[k][ROW_OP_COUNT];
        }

        int baseCount(int k) {
            return rows[k][ROW_BASE_COUNT];
        }
    }
}
