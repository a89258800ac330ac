import java.util.zip.CRC32;

/** What the boundary tests share: each test belongs to one sentence of one promise. */
abstract class BoundaryTest {
    static final int LOW = Integer.MIN_VALUE;
    static final int HIGH = Integer.MAX_VALUE;
    static final int NONE = BinnedReads.NONE;

    private static String current = "";
    private static int tests = 0;
    private static int wrong = 0;

    /** The sentence, or the part of it that names the case, is quoted from the document. */
    static void test(String promise, String sentence, Runnable calls) {
        current = promise + ", \"" + sentence + "\"";
        tests++;
        try {
            calls.run();
        } catch (RuntimeException thrown) {
            wrong++;
            System.out.println(current + ": a call threw " + thrown);
        }
    }

    static void endTests() {
        System.out.println(wrong == 0
                ? tests + " boundary cases hold"
                : wrong + " answers at boundaries are not as due");
        if (wrong != 0) {
            System.exit(1);
        }
    }

    static void due(String call, int got, int want) {
        if (got != want) {
            wrong++;
            System.out.println(current + ": " + call + " answered " + got + ", due is " + want);
        }
    }

    static void due(String call, boolean got, boolean want) {
        if (got != want) {
            wrong++;
            System.out.println(current + ": " + call + " answered " + got + ", due is " + want);
        }
    }

    /** Adds a read of one op of kind 0 with this many bases: 15, 14, .. */
    static int putBases(BinnedReads x, int reference, int position, int bases) {
        x.op(0, bases);
        appendBases(x, bases);
        return x.add(reference, position);
    }

    static void appendBases(BinnedReads x, int bases) {
        for (int i = 0; i < bases; i++) {
            x.base(15 - i % 16);
        }
    }

    /** Adds a read without bases, of as few ops of kind 3 as have this span (189 at most). */
    static int putSpan(BinnedReads x, int reference, int position, int span) {
        for (int left = span; left > 0; left -= 63) {
            x.op(3, Math.min(63, left));
        }
        return x.add(reference, position);
    }

    /** Adds reads of one place each, of 8 bytes each, at the positions 0, 64, 128, .. of reference 0. */
    static void putSmall(BinnedReads x, int reads) {
        for (int i = 0; i < reads; i++) {
            putSpan(x, 0, 64 * i, 1);
        }
    }

    /** The written store of one read. */
    static BinnedReads storeOf(int reference, int position, int span) {
        BinnedReads x = new BinnedReads();
        putSpan(x, reference, position, span);
        x.finish();
        return x;
    }

    /** The written store of so many small reads. */
    static BinnedReads storeOfSmall(int reads) {
        BinnedReads x = new BinnedReads();
        putSmall(x, reads);
        x.finish();
        return x;
    }

    static void queryIs(BinnedReads x, int reference, int beg, int end, int looked, int found) {
        String call = "query(" + reference + ", " + beg + ", " + end + ")";
        due(call, x.query(reference, beg, end), found);
        due("looked() after " + call, x.looked(), looked);
    }

    static void foundIs(BinnedReads x, int k, int... answers) {
        for (int which = 0; which < answers.length; which++) {
            due("found(" + k + ", " + which + ")", x.found(k, which), answers[which]);
        }
    }

    static void nothingIsFound(BinnedReads x) {
        foundIs(x, 0, NONE, NONE, NONE, NONE, NONE, NONE);
        due("foundOp(0, 0)", x.foundOp(0, 0), NONE);
        due("foundBase(0, 0)", x.foundBase(0, 0), NONE);
    }

    /** True only of an empty draft: it takes three ops and 24 bases. It is empty then again. */
    static void draftIsEmpty(BinnedReads x) {
        takes(x, 3, 24);
        x.scrap();
    }

    /** The draft takes exactly so many ops and bases more. */
    static void takes(BinnedReads x, int ops, int bases) {
        for (int i = 0; i < ops; i++) {
            due("op " + i + " more", x.op(3, 1), true);
        }
        due("op " + ops + " more", x.op(3, 1), false);
        for (int i = 0; i < bases; i++) {
            due("base " + i + " more", x.base(1), true);
        }
        due("base " + bases + " more", x.base(1), false);
    }

    static void blockIs(BinnedReads x, int start, int... piece) {
        bytesAre(x, start, 31, 139, 1, piece.length, 0, 255 - piece.length, 255);
        bytesAre(x, start + 7, piece);
        CRC32 sum = new CRC32();
        for (int part : piece) {
            sum.update(part);
        }
        int value = (int) sum.getValue();
        bytesAre(x, start + 7 + piece.length,
                value & 255, value >>> 8 & 255, value >>> 16 & 255, value >>> 24);
    }

    static void bytesAre(BinnedReads x, int start, int... bytes) {
        for (int i = 0; i < bytes.length; i++) {
            due("byteAt(" + (start + i) + ")", x.byteAt(start + i), bytes[i]);
        }
    }
}
