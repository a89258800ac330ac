import java.util.zip.CRC32;

/** For each promise of the document: ordinary inputs, the edges that it names, and wrong inputs. */
public final class PromiseTests {
    private static final int LOW = Integer.MIN_VALUE;
    private static final int HIGH = Integer.MAX_VALUE;

    private static int wrong = 0;

    public static void main(String[] args) {
        aNewObject();
        opsOfTheDraft();
        basesOfTheDraft();
        scrapEmptiesTheDraft();
        addNumbersReads();
        addRefusesWhenWrittenOrFull();
        addRefusesADraftThatIsNoRead();
        addRefusesPlacesThatAreNotThere();
        addRefusesWhatComesBefore();
        addTellsTheFirstReason();
        finishWritesTheDisk();
        finishCutsIntoPieces();
        finishLeavesTheDraft();
        clearMakesAllAsAtFirst();
        turnTurnsOneBit();
        byteAtTellsTheDisk();
        checkReadsAllBlocks();
        queryFindsOverlaps();
        queryRefusesWrongRegions();
        queryLooksByBins();
        queryLooksFromTheFirstThatReachesTheCell();
        queryNoticesDamageOfWhatItLooksAt();
        aFailedQueryChangesNothing();
        lookedCountsReads();
        foundTellsARead();
        binsOfReads();
        foundOpTellsOps();
        foundBaseTellsBases();
        theFindingStaysAfterDamage();
        theLongestRow();
        theFullStore();
        System.out.println(wrong == 0 ? "all promises hold" : wrong + " answers are not as due");
        if (wrong != 0) {
            System.exit(1);
        }
    }

    // Promise 1

    private static void aNewObject() {
        BinnedReads x = new BinnedReads();
        isAsAtFirst("1 new", x);
        BinnedReads other = new BinnedReads();
        put(other, 0, 5, 2);
        other.finish();
        other.query(0, 0, 4096);
        isAsAtFirst("1 new beside another", x);
    }

    private static void isAsAtFirst(String what, BinnedReads x) {
        due(what + ": byteAt(0)", x.byteAt(0), -1);
        due(what + ": check()", x.check(), -1);
        due(what + ": query", x.query(0, 0, 4096), -1);
        due(what + ": looked()", x.looked(), 0);
        due(what + ": turn(0, 0)", x.turn(0, 0), false);
        nothingIsFound(what, x);
        due(what + ": add", x.add(0, 0), -2);
        // Three ops and 24 bases fit only into an empty draft; scrap then leaves it empty again.
        for (int i = 0; i < 3; i++) {
            due(what + ": op", x.op(3, 1), true);
        }
        for (int i = 0; i < 24; i++) {
            due(what + ": base", x.base(1), true);
        }
        x.scrap();
    }

    private static void nothingIsFound(String what, BinnedReads x) {
        for (int which = 0; which <= 5; which++) {
            due(what + ": found(0, " + which + ")", x.found(0, which), -1);
        }
        due(what + ": foundOp(0, 0)", x.foundOp(0, 0), -1);
        due(what + ": foundBase(0, 0)", x.foundBase(0, 0), -1);
    }

    // Promise 2

    private static void opsOfTheDraft() {
        BinnedReads x = new BinnedReads();
        int[][] bad = {{-1, 1}, {4, 1}, {LOW, 1}, {HIGH, 1}, {0, 0}, {0, -1}, {0, 64}, {3, LOW}, {3, HIGH}};
        for (int[] op : bad) {
            due("2 op(" + op[0] + ", " + op[1] + ")", x.op(op[0], op[1]), false);
        }
        due("2 the first", x.op(3, 63), true);
        due("2 a wrong one between", x.op(4, 63), false);
        due("2 the second", x.op(2, 1), true);
        due("2 the third", x.op(1, 1), true);
        due("2 the fourth", x.op(0, 1), false);
        x.base(9);
        due("2 add", x.add(0, 0), 0);
        for (int kind = 0; kind <= 3; kind++) {
            due("2 each kind", x.op(kind, 1), true);
            x.scrap();
        }
        x.finish();
        due("2 query", x.query(0, 0, 1), 1);
        due("2 ops", x.found(0, 4), 3);
        due("2 op 0", x.foundOp(0, 0), 4 * 63 + 3);
        due("2 op 1", x.foundOp(0, 1), 4 + 2);
        due("2 op 2", x.foundOp(0, 2), 4 + 1);
        due("2 op when written", x.op(0, 1), true);
    }

    // Promise 3

    private static void basesOfTheDraft() {
        BinnedReads x = new BinnedReads();
        x.op(0, 24);
        for (int code : new int[] {-1, 16, LOW, HIGH}) {
            due("3 base(" + code + ")", x.base(code), false);
        }
        for (int i = 0; i < 24; i++) {
            due("3 base " + i, x.base(i % 16), true);
        }
        due("3 the 25th", x.base(0), false);
        due("3 add", x.add(0, 0), 0);
        x.finish();
        due("3 query", x.query(0, 0, 1), 1);
        for (int i = 0; i < 24; i++) {
            due("3 foundBase " + i, x.foundBase(0, i), i % 16);
        }
        due("3 base when written", x.base(0), true);
    }

    // Promise 4

    private static void scrapEmptiesTheDraft() {
        BinnedReads x = new BinnedReads();
        x.scrap();
        x.op(3, 5);
        x.op(3, 5);
        x.op(3, 5);
        x.scrap();
        due("4 no ops", x.add(0, 0), -2);
        x.base(1);
        x.scrap();
        x.op(3, 5);
        due("4 no bases", x.add(0, 7), 0);
        x.op(0, 1);
        x.scrap();
        x.finish();
        x.query(0, 7, 8);
        x.scrap();
        due("4 the reads stay", x.check(), 1);
        due("4 the finding stays", x.found(0, 1), 7);
        due("4 what was scrapped is in no read", x.found(0, 4), 1);
    }

    // Promise 5

    private static void addNumbersReads() {
        BinnedReads x = new BinnedReads();
        for (int i = 0; i < 5; i++) {
            due("5 number", put(x, 0, 100 * i, 3), i);
        }
        due("5 the draft is empty then: no op", x.add(1, 0), -2);
        x.op(3, 1);
        due("5 the draft is empty then: no base", x.add(1, 0), 5);
    }

    private static void addRefusesWhenWrittenOrFull() {
        BinnedReads x = new BinnedReads();
        for (int i = 0; i < 24; i++) {
            due("5 there is room", put(x, 0, i, 1), i);
        }
        due("5 24 are there", put(x, 1, 0, 1), -1);
        x.finish();
        due("5 it stays 24", x.check(), 24);
        BinnedReads y = new BinnedReads();
        y.op(3, 9);
        y.finish();
        due("5 the disk is written", y.add(0, 0), -1);
        due("5 it stays 0", y.check(), 0);
    }

    private static void addRefusesADraftThatIsNoRead() {
        BinnedReads x = new BinnedReads();
        due("5 no op", x.add(0, 0), -2);
        x.base(3);
        due("5 no op, a base", x.add(0, 0), -2);
        x.scrap();
        x.op(1, 1);
        x.base(3);
        due("5 the span is 0", x.add(0, 0), -2);
        x.op(3, 1);
        x.base(3);
        due("5 a base too many", x.add(0, 0), -2);
        x.op(1, 2);
        due("5 a base too few", x.add(0, 0), -2);
        x.base(3);
        due("5 the draft was kept", x.add(0, 0), 0);
        x.op(0, 25);
        for (int i = 0; i < 24; i++) {
            x.base(0);
        }
        due("5 wider than bases can be", x.add(0, 0), -2);
        x.scrap();
        x.op(2, 2);
        due("5 kind 2 has no bases", x.add(0, 0), 1);
        x.op(3, 2);
        due("5 kind 3 has no bases", x.add(0, 0), 2);
        x.op(0, 1);
        due("5 kind 0 has bases", x.add(0, 0), -2);
        x.base(1);
        due("5 kind 0 covers places", x.add(0, 0), 3);
    }

    private static void addRefusesPlacesThatAreNotThere() {
        BinnedReads x = new BinnedReads();
        x.op(3, 2);
        for (int reference : new int[] {-1, 2, LOW, HIGH}) {
            due("5 reference " + reference, x.add(reference, 0), -3);
        }
        for (int position : new int[] {-1, 4096, LOW, HIGH, HIGH - 1}) {
            due("5 position " + position, x.add(0, position), -3);
        }
        due("5 the end would be 4097", x.add(0, 4095), -3);
        due("5 the end is 4096", x.add(0, 4094), 0);
        x.op(3, 63);
        x.op(2, 63);
        x.op(0, 1);
        x.base(0);
        due("5 all ops count for the end", x.add(1, 3970), -3);
        due("5 all ops fit", x.add(1, 3969), 1);
        x.op(3, 1);
        x.op(1, 5);
        for (int i = 0; i < 5; i++) {
            x.base(0);
        }
        due("5 kind 1 does not count for the end", x.add(1, 4095), 2);
    }

    private static void addRefusesWhatComesBefore() {
        BinnedReads x = new BinnedReads();
        put(x, 0, 10, 5);
        x.op(3, 1);
        due("5 a position before", x.add(0, 9), -4);
        due("5 the same position", x.add(0, 10), 1);
        x.op(3, 1);
        due("5 a lower position on the next reference", x.add(1, 0), 2);
        x.op(3, 1);
        due("5 a reference before", x.add(0, 4000), -4);
        due("5 refused ones do not count", x.add(1, 0), 3);
    }

    private static void addTellsTheFirstReason() {
        BinnedReads x = new BinnedReads();
        put(x, 1, 10, 1);
        due("5 -2 before -3", x.add(7, 0), -2);
        due("5 -2 before -4", x.add(0, 0), -2);
        x.op(3, 2);
        due("5 -3 before -4", x.add(0, 4095), -3);
        due("5 -4", x.add(0, 0), -4);
        x.finish();
        due("5 -1 before -4", x.add(0, 0), -1);
        due("5 -1 before -3", x.add(7, 0), -1);
        x.scrap();
        due("5 -1 before -2", x.add(1, 10), -1);
    }

    // Promise 6

    private static void finishWritesTheDisk() {
        BinnedReads x = new BinnedReads();
        x.op(0, 3);
        x.op(1, 2);
        x.op(2, 63);
        for (int i = 11; i <= 15; i++) {
            x.base(i);
        }
        x.add(1, 1000);
        int[] piece = {12, 1, 1000 % 256, 1000 / 256, 0, 3, 5, 12, 9, 254, 16 * 11 + 12, 16 * 13 + 14, 16 * 15};
        due("6 size", x.finish(), 11 + 13 + 11);
        blockIs("6 the block of the read", x, 0, piece);
        blockIs("6 the empty block", x, 24, new int[0]);
        due("6 no byte behind", x.byteAt(35), -1);
        due("6 again", x.finish(), -1);
        due("6 again leaves the disk", x.byteAt(34), 0);
        due("6 and its size", x.byteAt(35), -1);
        x.clear();
        put(x, 0, 0, 24);
        put(x, 0, 0, 1);
        x.finish();
        due("6 0 in place of a second base, whatever was there before", x.byteAt(7 + 28), 16 * 3);
        BinnedReads empty = new BinnedReads();
        due("6 no reads", empty.finish(), 11);
        blockIs("6 only the empty block", empty, 0, new int[0]);
        due("6 no reads, again", empty.finish(), -1);
    }

    private static void finishCutsIntoPieces() {
        // A read of one op without bases has 8 bytes: five of them fill a piece, and no piece is
        // left over for the empty block but its own.
        int[] sizes = {11, 30, 38, 46, 54, 62, 81};
        for (int reads = 1; reads <= 6; reads++) {
            BinnedReads x = new BinnedReads();
            for (int i = 0; i < reads; i++) {
                putSpan(x, 0, i, 1);
            }
            due("6 " + reads + " reads", x.finish(), sizes[reads]);
            due("6 the first piece of " + reads, x.byteAt(3), Math.min(40, 8 * reads));
        }
        BinnedReads x = new BinnedReads();
        for (int i = 0; i < 6; i++) {
            putSpan(x, 1, 300 + i, 2);
        }
        x.finish();
        int[] first = new int[40];
        for (int i = 0; i < 5; i++) {
            int[] row = {7, 1, 44 + i, 1, 13, 1, 0, 11};
            System.arraycopy(row, 0, first, 8 * i, 8);
        }
        blockIs("6 a full piece", x, 0, first);
        blockIs("6 the last piece", x, 51, new int[] {7, 1, 49, 1, 13, 1, 0, 11});
        blockIs("6 the empty piece", x, 70, new int[0]);
    }

    private static void blockIs(String what, BinnedReads x, int start, int[] piece) {
        int[] head = {31, 139, 1, piece.length, 0, 255 - piece.length, 255};
        CRC32 sum = new CRC32();
        for (int i = 0; i < head.length; i++) {
            due(what + ": head " + i, x.byteAt(start + i), head[i]);
        }
        for (int i = 0; i < piece.length; i++) {
            due(what + ": piece " + i, x.byteAt(start + 7 + i), piece[i]);
            sum.update(piece[i]);
        }
        for (int i = 0; i < 4; i++) {
            int part = (int) (sum.getValue() >>> (8 * i)) & 255;
            due(what + ": sum " + i, x.byteAt(start + 7 + piece.length + i), part);
        }
    }

    private static void finishLeavesTheDraft() {
        BinnedReads x = new BinnedReads();
        x.op(3, 1);
        x.op(3, 1);
        x.op(3, 1);
        due("6 the draft is not written", x.finish(), 11);
        due("6 the draft is as it was", x.op(3, 1), false);
    }

    // Promise 7

    private static void clearMakesAllAsAtFirst() {
        BinnedReads x = new BinnedReads();
        x.clear();
        isAsAtFirst("7 of a new one", x);
        put(x, 1, 4000, 3);
        x.op(0, 3);
        x.base(1);
        x.clear();
        isAsAtFirst("7 before the disk is written", x);
        due("7 the first read again", put(x, 0, 5, 2), 0);
        x.finish();
        x.query(0, 0, 4096);
        x.turn(0, 0);
        x.op(0, 3);
        x.clear();
        isAsAtFirst("7 with a bit turned", x);
        due("7 the disk of no reads", x.finish(), 11);
        due("7 no bit is turned", x.check(), 0);
        due("7 another bit may be turned", x.turn(5, 5), true);
        x.clear();
        putSpan(x, 1, 64, 4);
        due("7 another disk", x.finish(), 30);
        due("7 another query", x.query(1, 0, 4096), 1);
        due("7 another finding", x.found(0, 3), 68);
        x.clear();
        for (int i = 0; i < 6; i++) {
            putSpan(x, 0, 64 * i, 5);
        }
        due("7 a disk of several blocks", x.finish(), 81);
        due("7 a query of the second block", x.query(0, 320, 321), 1);
        due("7 its finding", x.found(0, 0), 64 * 51);
        due("7 its finding", x.found(0, 1), 320);
    }

    // Promise 8

    private static void turnTurnsOneBit() {
        BinnedReads x = new BinnedReads();
        due("8 nothing is written", x.turn(0, 0), false);
        putSpan(x, 0, 0, 1);
        due("8 still not", x.turn(0, 0), false);
        int size = x.finish();
        for (int k : new int[] {-1, size, LOW, HIGH, 1 << 29}) {
            due("8 no byte " + k, x.turn(k, 0), false);
        }
        for (int bit : new int[] {-1, 8, LOW, HIGH, 32}) {
            due("8 no bit " + bit, x.turn(0, bit), false);
        }
        due("8 refused ones damage nothing", x.check(), 1);
        for (int k = 0; k < size; k++) {
            turnsEachBitOf(k, size);
        }
    }

    /** On a new object for each byte: one object is used for at most 512 calls. */
    private static void turnsEachBitOf(int k, int size) {
        BinnedReads x = new BinnedReads();
        putSpan(x, 0, 0, 1);
        x.finish();
        for (int bit = 0; bit < 8; bit++) {
            int before = x.byteAt(k);
            due("8 turn", x.turn(k, bit), true);
            due("8 turned", x.byteAt(k), before ^ (1 << bit));
            due("8 another bit of the byte", x.turn(k, (bit + 1) % 8), false);
            due("8 the bit of another byte", x.turn((k + 1) % size, bit), false);
            due("8 the next byte, one bit lower", x.turn(k + 1, bit - 1), false);
            due("8 a bit that is not there", x.turn(k, bit + 8), false);
            due("8 noticed", x.check(), -2);
            due("8 turn back", x.turn(k, bit), true);
            due("8 turned back", x.byteAt(k), before);
        }
    }

    // Promise 9

    private static void byteAtTellsTheDisk() {
        BinnedReads x = new BinnedReads();
        put(x, 0, 0, 1);
        due("9 nothing is written", x.byteAt(0), -1);
        int size = x.finish();
        due("9 the first", x.byteAt(0), 31);
        due("9 more than 127", x.byteAt(1), 139);
        due("9 the last", x.byteAt(size - 1), 0);
        for (int k : new int[] {-1, size, LOW, HIGH}) {
            due("9 byteAt(" + k + ")", x.byteAt(k), -1);
        }
        x.turn(1, 7);
        due("9 as it is now", x.byteAt(1), 11);
        x.turn(1, 7);
        due("9 as it is now, turned back", x.byteAt(1), 139);
    }

    // Promise 10

    private static void checkReadsAllBlocks() {
        BinnedReads x = new BinnedReads();
        due("10 nothing is written", x.check(), -1);
        for (int i = 0; i < 11; i++) {
            putSpan(x, 0, 10 * i, 10);
        }
        due("10 still not", x.check(), -1);
        int size = x.finish();
        due("10 how many", x.check(), 11);
        for (int k = 0; k < size; k++) {
            x.turn(k, k % 8);
            due("10 byte " + k + " is damaged", x.check(), -2);
            x.turn(k, k % 8);
        }
        due("10 how many again", x.check(), 11);
        due("10 the finding is left alone", x.looked(), 0);
    }

    // Promise 11

    private static void queryFindsOverlaps() {
        BinnedReads x = new BinnedReads();
        putSpan(x, 0, 10, 5);
        putSpan(x, 0, 12, 10);
        putSpan(x, 0, 30, 1);
        putSpan(x, 1, 12, 1);
        x.finish();
        due("11 before the first", x.query(0, 0, 10), 0);
        due("11 its first place", x.query(0, 10, 11), 1);
        due("11 its last place", x.query(0, 14, 15), 2);
        due("11 its end", x.query(0, 15, 16), 1);
        due("11 it is the second", x.found(0, 1), 12);
        due("11 the places between", x.query(0, 22, 30), 0);
        due("11 a region within a read", x.query(0, 17, 19), 1);
        due("11 a region round reads", x.query(0, 0, 4096), 3);
        due("11 in the order of the numbers", x.found(0, 1), 10);
        due("11 in the order of the numbers", x.found(1, 1), 12);
        due("11 in the order of the numbers", x.found(2, 1), 30);
        due("11 the other reference", x.query(1, 0, 4096), 1);
        due("11 no more of it", x.query(1, 13, 4096), 0);
    }

    private static void queryRefusesWrongRegions() {
        BinnedReads x = new BinnedReads();
        putSpan(x, 0, 0, 63);
        due("11 nothing is written", x.query(0, 0, 1), -1);
        x.finish();
        x.query(0, 0, 1);
        int[][] bad = {{-1, 0, 1}, {2, 0, 1}, {LOW, 0, 1}, {HIGH, 0, 1}, {0, -1, 1}, {0, LOW, 1},
            {0, 0, 4097}, {0, 0, HIGH}, {0, 5, 5}, {0, 6, 5}, {0, 0, 0}, {0, 4096, 4096}, {0, HIGH, LOW},
            {0, 4096, 4097}, {0, LOW, HIGH}};
        for (int[] q : bad) {
            due("11 query(" + q[0] + ", " + q[1] + ", " + q[2] + ")", x.query(q[0], q[1], q[2]), -1);
            due("11 looked stays", x.looked(), 1);
            due("11 found stays", x.found(0, 3), 63);
        }
        x.turn(0, 0);
        due("11 -1 before -2", x.query(0, 5, 5), -1);
        due("11 -2", x.query(0, 5, 6), -2);
    }

    private static void queryLooksByBins() {
        BinnedReads x = new BinnedReads();
        putSpan(x, 0, 0, 10);
        putSpan(x, 0, 60, 10);
        putSpan(x, 0, 64, 10);
        putSpan(x, 0, 500, 20);
        putSpan(x, 0, 1000, 10);
        putSpan(x, 0, 1020, 4);
        x.finish();
        looksAt(x, 0, 63, 64, 3, 1);
        looksAt(x, 0, 64, 65, 3, 2);
        looksAt(x, 0, 63, 65, 4, 2);
        looksAt(x, 0, 128, 129, 1, 0);
        looksAt(x, 0, 511, 512, 1, 1);
        looksAt(x, 0, 512, 513, 1, 1);
        looksAt(x, 0, 959, 960, 0, 0);
        looksAt(x, 0, 959, 961, 2, 0);
        looksAt(x, 0, 1023, 1024, 2, 1);
        looksAt(x, 0, 1024, 1025, 0, 0);
        looksAt(x, 0, 0, 4096, 6, 6);
        looksAt(x, 1, 0, 4096, 0, 0);
    }

    private static void queryLooksFromTheFirstThatReachesTheCell() {
        BinnedReads x = new BinnedReads();
        putSpan(x, 0, 0, 63);
        putSpan(x, 0, 60, 68);
        putSpan(x, 0, 70, 3);
        putSpan(x, 0, 120, 50);
        putSpan(x, 0, 130, 2);
        putSpan(x, 1, 60, 5);
        x.finish();
        // Read 1 ends at 128: it is of a bin of 512 places, but reaches only the cell before 128.
        looksAt(x, 0, 127, 128, 3, 2);
        looksAt(x, 0, 128, 129, 2, 1);
        // A short read behind a long one is looked at though it does not reach the cell itself.
        BinnedReads y = new BinnedReads();
        putSpan(y, 0, 10, 150);
        putSpan(y, 0, 20, 60);
        putSpan(y, 0, 30, 100);
        y.finish();
        looksAt(y, 0, 128, 129, 3, 2);
        looksAt(y, 0, 160, 161, 3, 0);
        looksAt(y, 0, 191, 192, 3, 0);
        looksAt(y, 0, 192, 193, 0, 0);
        binsThatEndBeforeTheRegion();
        // The first read is looked for on the query's own reference.
        BinnedReads z = new BinnedReads();
        putSpan(z, 0, 4000, 90);
        putSpan(z, 1, 50, 20);
        putSpan(z, 1, 100, 50);
        z.finish();
        looksAt(z, 1, 128, 129, 1, 1);
        looksAt(z, 1, 64, 65, 2, 1);
    }

    /** A long first read reaches the cell, so only their bins keep the reads behind it out. */
    private static void binsThatEndBeforeTheRegion() {
        BinnedReads narrow = new BinnedReads();
        putSpan(narrow, 0, 10, 150);
        putSpan(narrow, 0, 20, 5);
        narrow.finish();
        looksAt(narrow, 0, 63, 64, 2, 1);
        looksAt(narrow, 0, 64, 65, 1, 1);
        looksAt(narrow, 0, 128, 129, 1, 1);
        BinnedReads wide = new BinnedReads();
        putSpan(wide, 0, 440, 189);
        putSpan(wide, 0, 440, 20);
        wide.finish();
        looksAt(wide, 0, 511, 512, 2, 1);
        looksAt(wide, 0, 512, 513, 1, 1);
        looksAt(wide, 0, 576, 577, 1, 1);
        // The bin of all places begins at the first and ends behind the last.
        looksAt(wide, 0, 0, 1, 2, 0);
        looksAt(wide, 0, 4095, 4096, 0, 0);
    }

    private static void looksAt(BinnedReads x, int reference, int beg, int end, int looked, int found) {
        String call = "11, 12 query(" + reference + ", " + beg + ", " + end + ")";
        due(call, x.query(reference, beg, end), found);
        due(call + ": looked()", x.looked(), looked);
    }

    private static void queryNoticesDamageOfWhatItLooksAt() {
        // 16, 16 and 16 bytes of the stream: the third read begins in the first block, place 32,
        // and ends in the second; the fourth (8 bytes) is all in the second.
        for (int k = 0; k < 89; k++) {
            boolean first = k < 51;
            boolean second = k >= 51 && k < 78;
            BinnedReads x = new BinnedReads();
            put(x, 0, 0, 16);
            put(x, 0, 600, 16);
            put(x, 0, 1200, 16);
            putSpan(x, 0, 1800, 1);
            due("11 size", x.finish(), 51 + 27 + 11);
            x.turn(k, k % 8);
            due("11 damage at " + k + ", read 0", x.query(0, 0, 1), first ? -2 : 1);
            due("11 damage at " + k + ", read 1", x.query(0, 600, 601), first ? -2 : 1);
            due("11 damage at " + k + ", read 2", x.query(0, 1200, 1201), first || second ? -2 : 1);
            due("11 damage at " + k + ", read 3", x.query(0, 1800, 1801), second ? -2 : 1);
            due("11 damage at " + k + ", looked at, not found", x.query(0, 20, 21), first ? -2 : 0);
            due("11 damage at " + k + ", none looked at", x.query(0, 3000, 3001), 0);
            due("11 damage at " + k + ", the other reference", x.query(1, 0, 4096), 0);
            due("11 damage at " + k + ", all", x.query(0, 0, 4096), first || second ? -2 : 4);
        }
        aReadMayFillItsBlock();
        aReadMayHaveOneByteInABlock();
    }

    private static void aReadMayHaveOneByteInABlock() {
        BinnedReads x = new BinnedReads();
        put(x, 0, 0, 16);
        put(x, 0, 64, 16);
        put(x, 0, 128, 1);
        due("11 size", x.finish(), 41 + 11 * 3);
        x.turn(51, 0);
        due("11 its last byte is in the damaged block", x.query(0, 128, 129), -2);
        due("11 the read before is not in it", x.query(0, 64, 65), 1);
        x.turn(51, 0);
        x.clear();
        put(x, 0, 0, 24);
        put(x, 0, 64, 22);
        put(x, 0, 128, 1);
        due("11 size", x.finish(), 48 + 11 * 3);
        x.turn(0, 0);
        due("11 its first byte is in the damaged block", x.query(0, 128, 129), -2);
        x.turn(0, 0);
        x.turn(51, 0);
        due("11 the others are in the damaged block", x.query(0, 128, 129), -2);
    }

    private static void aReadMayFillItsBlock() {
        BinnedReads x = new BinnedReads();
        for (int i = 0; i < 6; i++) {
            putSpan(x, 0, 64 * i, 1);
        }
        x.finish();
        x.turn(51, 0);
        due("11 the last of the first block", x.query(0, 256, 257), 1);
        due("11 the first of the second block", x.query(0, 320, 321), -2);
        x.turn(51, 0);
        x.turn(50, 7);
        due("11 the last of the first block", x.query(0, 256, 257), -2);
        due("11 the first of the second block", x.query(0, 320, 321), 1);
        due("11 its offset", x.found(0, 0), 64 * 51);
    }

    private static void aFailedQueryChangesNothing() {
        BinnedReads x = new BinnedReads();
        for (int i = 0; i < 6; i++) {
            putSpan(x, 0, 64 * i, 5);
        }
        x.finish();
        due("11 two", x.query(0, 0, 128), 2);
        x.turn(60, 0);
        due("11 all but the last are whole", x.query(0, 64, 4096), -2);
        due("12 looked stays", x.looked(), 2);
        due("13 found stays", x.found(0, 1), 0);
        due("13 found stays", x.found(1, 1), 64);
        due("13 found stays", x.found(2, 1), -1);
        due("14 foundOp stays", x.foundOp(1, 0), 23);
    }

    // Promise 12

    private static void lookedCountsReads() {
        BinnedReads x = new BinnedReads();
        putSpan(x, 0, 0, 5);
        putSpan(x, 0, 30, 5);
        x.finish();
        due("12 there was no query", x.looked(), 0);
        x.query(0, 5, 5);
        due("12 none that answered 0 or more", x.looked(), 0);
        x.query(0, 20, 21);
        due("12 looked at, none found", x.looked(), 2);
        x.query(0, 0, 0);
        due("12 the latest that answered", x.looked(), 2);
        x.query(0, 64, 65);
        due("12 none looked at", x.looked(), 0);
    }

    // Promise 13

    private static void foundTellsARead() {
        BinnedReads x = new BinnedReads();
        put(x, 0, 4, 24);
        x.op(0, 2);
        x.op(1, 1);
        x.op(3, 60);
        x.base(1);
        x.base(2);
        x.base(3);
        x.add(0, 1000);
        put(x, 0, 1001, 1);
        put(x, 0, 1001, 2);
        x.finish();
        nothingIsFound("13 before a query", x);
        due("13 query", x.query(0, 1001, 1002), 3);
        foundIs(x, 0, 20, 1000, 0, 1062, 3, 3);
        foundIs(x, 1, 32, 1001, 24, 1002, 1, 1);
        foundIs(x, 2, 64 * 51 + 1, 1001, 24, 1003, 1, 2);
        foundIs(x, 3, -1, -1, -1, -1, -1, -1);
        foundIs(x, -1, -1, -1, -1, -1, -1, -1);
        foundIs(x, LOW, -1, -1, -1, -1, -1, -1);
        foundIs(x, HIGH, -1, -1, -1, -1, -1, -1);
        for (int which : new int[] {-1, 6, LOW, HIGH}) {
            due("13 which " + which, x.found(0, which), -1);
        }
        due("13 another query", x.query(0, 27, 28), 1);
        foundIs(x, 0, 0, 4, 9, 28, 1, 24);
        foundIs(x, 1, -1, -1, -1, -1, -1, -1);
        due("13 a query that finds nothing", x.query(0, 28, 29), 0);
        nothingIsFound("13 after it", x);
    }

    private static void foundIs(BinnedReads x, int k, int... answers) {
        for (int which = 0; which < answers.length; which++) {
            due("13 found(" + k + ", " + which + ")", x.found(k, which), answers[which]);
        }
    }

    private static void binsOfReads() {
        int[][] spans = {{0, 1, 9}, {0, 64, 9}, {0, 65, 1}, {63, 1, 9}, {63, 2, 1}, {64, 64, 10},
            {448, 64, 16}, {511, 1, 16}, {511, 2, 0}, {512, 64, 17}, {512, 65, 2}, {448, 65, 0},
            {4095, 1, 72}, {4032, 64, 72}, {4031, 65, 8}, {3584, 65, 8}, {3583, 2, 0}, {3583, 1, 64}};
        for (int[] span : spans) {
            BinnedReads x = new BinnedReads();
            putSpan(x, 1, span[0], span[1]);
            x.finish();
            due("13 query", x.query(1, span[0], span[0] + span[1]), 1);
            due("13 bin of " + span[0] + " + " + span[1], x.found(0, 2), span[2]);
            due("13 end of " + span[0] + " + " + span[1], x.found(0, 3), span[0] + span[1]);
            due("6 the bin on the disk", x.byteAt(11), span[2]);
        }
    }

    // Promise 14

    private static void foundOpTellsOps() {
        BinnedReads x = new BinnedReads();
        putSpan(x, 0, 0, 1);
        x.op(0, 1);
        x.op(1, 2);
        x.op(3, 63);
        x.base(1);
        x.base(2);
        x.base(3);
        x.add(0, 0);
        x.finish();
        due("14 before a query", x.foundOp(0, 0), -1);
        x.query(0, 0, 1);
        due("14 read 0, op 0", x.foundOp(0, 0), 7);
        due("14 read 0, op 1", x.foundOp(0, 1), -1);
        due("14 read 1, op 0", x.foundOp(1, 0), 4);
        due("14 read 1, op 1", x.foundOp(1, 1), 9);
        due("14 read 1, op 2", x.foundOp(1, 2), 255);
        for (int i : new int[] {-1, 3, LOW, HIGH}) {
            due("14 no op " + i, x.foundOp(1, i), -1);
        }
        for (int k : new int[] {-1, 2, LOW, HIGH}) {
            due("14 no read " + k, x.foundOp(k, 0), -1);
        }
    }

    // Promise 15

    private static void foundBaseTellsBases() {
        BinnedReads x = new BinnedReads();
        putSpan(x, 0, 0, 1);
        x.op(0, 2);
        x.op(2, 1);
        x.op(1, 1);
        x.base(15);
        x.base(0);
        x.base(6);
        x.add(0, 0);
        put(x, 0, 0, 24);
        x.finish();
        due("15 before a query", x.foundBase(0, 0), -1);
        x.query(0, 0, 1);
        due("15 a read without bases", x.foundBase(0, 0), -1);
        due("15 base 0", x.foundBase(1, 0), 15);
        due("15 base 1", x.foundBase(1, 1), 0);
        due("15 base 2", x.foundBase(1, 2), 6);
        for (int i : new int[] {-1, 3, LOW, HIGH}) {
            due("15 no base " + i, x.foundBase(1, i), -1);
        }
        for (int i = 0; i < 24; i++) {
            due("15 of 24, base " + i, x.foundBase(2, i), (5 * i + 3) % 16);
        }
        due("15 no 25th", x.foundBase(2, 24), -1);
        for (int k : new int[] {-1, 3, LOW, HIGH}) {
            due("15 no read " + k, x.foundBase(k, 0), -1);
        }
    }

    private static void theFindingStaysAfterDamage() {
        BinnedReads x = new BinnedReads();
        put(x, 1, 10, 3);
        int size = x.finish();
        x.query(1, 0, 4096);
        for (int k = 0; k < size; k++) {
            x.turn(k, 2);
            foundIs(x, 0, 0, 10, 9, 13, 1, 3);
            due("14 after damage", x.foundOp(0, 0), 12);
            due("15 after damage", x.foundBase(0, 2), 13);
            x.turn(k, 2);
        }
    }

    private static void theLongestRow() {
        BinnedReads x = new BinnedReads();
        for (int read = 0; read < 3; read++) {
            x.op(0, 20);
            x.op(3, 63);
            x.op(1, 4);
            for (int i = 0; i < 24; i++) {
                x.base((read + i) % 16);
            }
            due("5 three ops and 24 bases", x.add(1, 70), read);
        }
        due("6 three rows of 22 bytes", x.finish(), 66 + 33);
        due("11 all three", x.query(1, 0, 4096), 3);
        foundIs(x, 1, 22, 70, 1, 153, 3, 24);
        due("14 its last op", x.foundOp(1, 2), 17);
        for (int i = 0; i < 24; i++) {
            due("15 base " + i, x.foundBase(1, i), (1 + i) % 16);
        }
    }

    /** 24 reads of three ops each, with as many bases as the 512 calls of an object leave room for. */
    private static void theFullStore() {
        BinnedReads x = new BinnedReads();
        for (int i = 0; i < 24; i++) {
            x.op(3, 63);
            x.op(0, 11);
            x.op(1, 1);
            for (int j = 0; j < 12; j++) {
                x.base((i + j) % 16);
            }
            due("5 read " + i, x.add(i / 12, 100 * (i % 12)), i);
        }
        due("6 a great disk", x.finish(), 24 * 16 + 11 * 11);
        due("10 all", x.check(), 24);
        looksAt(x, 1, 4000, 4001, 0, 0);
        for (int reference = 0; reference < 2; reference++) {
            due("11 all of " + reference, x.query(reference, 0, 4096), 12);
            for (int k = 0; k < 12; k++) {
                int place = 16 * (12 * reference + k);
                due("13 offset", x.found(k, 0), 64 * 51 * (place / 40) + place % 40);
                due("13 end", x.found(k, 3), 100 * k + 74);
                due("15 last base", x.foundBase(k, 11), (12 * reference + k + 11) % 16);
            }
        }
    }

    /** Adds a read of one op of kind 0 with this many bases, (5 * i + 3) % 16 each. */
    private static int put(BinnedReads x, int reference, int position, int width) {
        x.op(0, width);
        for (int i = 0; i < width; i++) {
            x.base((5 * i + 3) % 16);
        }
        return x.add(reference, position);
    }

    /** Adds a read without bases, of as few ops of kind 3 as have this span. */
    private static int putSpan(BinnedReads x, int reference, int position, int span) {
        for (int left = span; left > 0; left -= 63) {
            x.op(3, Math.min(63, left));
        }
        return x.add(reference, position);
    }

    private static void due(String what, int got, int want) {
        if (got != want) {
            wrong++;
            System.out.println("promise " + what + " answered " + got + ", due is " + want);
        }
    }

    private static void due(String what, boolean got, boolean want) {
        due(what, got ? 1 : 0, want ? 1 : 0);
    }
}
