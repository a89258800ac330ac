/** The boundary cases of the promises 8 to 15. Each test is listed with its promise and sentence. */
public final class BoundaryReadTests extends BoundaryTest {
    public static void main(String[] args) {
        testTheDisk();
        testQuery();
        testLooked();
        testFound();
        endTests();
    }

    private static void testTheDisk() {
        test("Promise 8", "Bit (0 .. 7, 0 is the lowest) of byte k of the disk is turned",
                BoundaryReadTests::theLowestAndTheHighestBit);
        test("Promise 8", "false when there is no such byte", BoundaryReadTests::bytesTooSmallAndTooLarge);
        test("Promise 8", "false when there is no such byte", BoundaryReadTests::bytesThatWrapAround);
        test("Promise 8", "false when there is no such byte", BoundaryReadTests::turnWhenNothingIsWritten);
        test("Promise 8", "no such byte or bit", BoundaryReadTests::bitsTooSmallAndTooLarge);
        test("Promise 8", "or another bit is turned.", BoundaryReadTests::anotherBitIsTurned);
        test("Promise 8", "(The same bit may be turned back.)", BoundaryReadTests::turnedBack);
        test("Promise 9", "Byte k of the disk, as it is now (0 .. 255)",
                BoundaryReadTests::theLeastAndTheGreatestByte);
        test("Promise 9", "Byte k of the disk, as it is now (0 .. 255)",
                BoundaryReadTests::theFirstAndTheLastByte);
        test("Promise 9", "NONE when there is none", BoundaryReadTests::noSuchByte);
        test("Promise 9", "(also when nothing is written)", BoundaryReadTests::noByteWhenNothingIsWritten);
        test("Promise 10", "Reads all blocks: how many reads there are.",
                BoundaryReadTests::checkOfNoneAndOf24);
        test("Promise 10", "-1 when nothing is written", BoundaryReadTests::checkWhenNothingIsWritten);
        test("Promise 10", "-2 when a block is damaged.", BoundaryReadTests::checkOfEachBitOfEachBlock);
        test("Promise 10", "-2 when a block is damaged.", BoundaryReadTests::checkOfTheSmallestDisk);
    }

    private static void testQuery() {
        test("Promise 11", "Answers how many reads the finding has.",
                BoundaryReadTests::theSmallestAndTheGreatestRegions);
        test("Promise 11", "Answers how many reads the finding has.",
                BoundaryReadTests::theSmallestAndTheGreatestFinding);
        test("Promise 11", "-1 when nothing is written", BoundaryReadTests::queryWhenNothingIsWritten);
        test("Promise 11", "there is no such reference", BoundaryReadTests::referencesTooSmallAndTooLarge);
        test("Promise 11", "beg is less than 0", BoundaryReadTests::begsTooSmall);
        test("Promise 11", "end is more than 4096", BoundaryReadTests::endsTooLarge);
        test("Promise 11", "or beg is not less than end", BoundaryReadTests::begsThatAreNotLess);
        test("Promise 11", "or beg is not less than end", BoundaryReadTests::regionsThatWrapAround);
        test("Promise 11", "else -2 when a block is damaged", BoundaryReadTests::minus1BeforeMinus2);
        test("Promise 11", "in which there is a byte of a read that it looks at.",
                BoundaryReadTests::onlyItsFirstByteIsDamaged);
        test("Promise 11", "in which there is a byte of a read that it looks at.",
                BoundaryReadTests::onlyItsLastByteIsDamaged);
        test("Promise 11", "in which there is a byte of a read that it looks at.",
                BoundaryReadTests::lookedAtButNotFound);
        test("Promise 11", "in which there is a byte of a read that it looks at.",
                BoundaryReadTests::lookedAtInTheLastBlock);
        test("Promise 11", "in which there is a byte of a read that it looks at.",
                BoundaryReadTests::noByteInTheDamagedBlock);
    }

    private static void testLooked() {
        test("Promise 12", "How many reads the latest query looked at that answered 0 or more",
                BoundaryReadTests::lookedAtNoneAndAt24);
        test("Promise 12", "How many reads the latest query looked at that answered 0 or more",
                BoundaryReadTests::lookedAfterRefusedQueries);
        test("Promise 12", "0 when there was none.", BoundaryReadTests::lookedWithoutAQuery);
    }

    private static void testFound() {
        test("Promise 13", "Of read k (from 0) of the finding of the latest query that answered 0 or more",
                BoundaryReadTests::theLatestQueryThatAnswered);
        test("Promise 13", "0 its offset, 1 its position, 2 its bin, 3 its end, 4 the number of its ops, "
                + "5 that of its bases", BoundaryReadTests::theLeastAndTheGreatestOfEach);
        test("Promise 13", "NONE when there is none", BoundaryReadTests::noSuchRead);
        test("Promise 13", "NONE when there is none", BoundaryReadTests::anEmptyFinding);
        test("Promise 13", "or which is not 0 .. 5.", BoundaryReadTests::whichTooSmallAndTooLarge);
        test("Promise 14", "Op i of that read, 4 * length + kind", BoundaryReadTests::theLeastAndTheGreatestOp);
        test("Promise 14", "NONE when there is none.", BoundaryReadTests::noSuchOp);
        test("Promise 14", "NONE when there is none.", BoundaryReadTests::noReadOfTheOp);
        test("Promise 15", "Base i of that read", BoundaryReadTests::theFirstAndTheLastBase);
        test("Promise 15", "NONE when there is none.", BoundaryReadTests::noSuchBase);
        test("Promise 15", "NONE when there is none.", BoundaryReadTests::noReadOfTheBase);
        test("Promises 13, 14, 15", "the finding of the latest query that answered 0 or more",
                BoundaryReadTests::theFindingWhileTheDiskIsDamaged);
    }

    // Promise 8

    private static void theLowestAndTheHighestBit() {
        BinnedReads x = storeOfSmall(1);
        int size = 30;
        for (int k : new int[] {0, size - 1}) {
            int before = x.byteAt(k);
            due("turn(" + k + ", 0)", x.turn(k, 0), true);
            due("byteAt(" + k + ")", x.byteAt(k), before ^ 1);
            x.turn(k, 0);
            due("turn(" + k + ", 7)", x.turn(k, 7), true);
            due("byteAt(" + k + ")", x.byteAt(k), before ^ 128);
            x.turn(k, 7);
        }
        eachBitOfAByte();
    }

    private static void eachBitOfAByte() {
        BinnedReads x = storeOfSmall(1);
        for (int bit = 0; bit <= 7; bit++) {
            due("turn(1, " + bit + ")", x.turn(1, bit), true);
            bytesAre(x, 0, 31, 139 ^ 1 << bit, 1);
            due("turn(1, " + bit + ") back", x.turn(1, bit), true);
            bytesAre(x, 0, 31, 139, 1);
        }
    }

    private static void bytesTooSmallAndTooLarge() {
        BinnedReads x = storeOfSmall(1);
        for (int k : new int[] {LOW, -30, -1, 30, 31, 692, 693, 700, 65536, HIGH}) {
            due("turn(" + k + ", 0)", x.turn(k, 0), false);
            due("turn(" + k + ", 7)", x.turn(k, 7), false);
        }
        due("nothing is damaged", x.check(), 1);
        due("the last byte", x.turn(29, 7), true);
        BinnedReads empty = new BinnedReads();
        empty.finish();
        due("turn(11, 0) without reads", empty.turn(11, 0), false);
        due("turn(10, 0) without reads", empty.turn(10, 0), true);
    }

    /** 8 * k would be the place of the turned bit again for these. */
    private static void bytesThatWrapAround() {
        BinnedReads x = storeOfSmall(1);
        x.turn(2, 3);
        for (int k : new int[] {2 + (1 << 29), 2 + (1 << 30), 2 + LOW, 2 - (1 << 29)}) {
            due("turn(" + k + ", 3)", x.turn(k, 3), false);
        }
        due("the damage stays", x.byteAt(2), 9);
    }

    private static void turnWhenNothingIsWritten() {
        BinnedReads x = new BinnedReads();
        due("of a new object", x.turn(0, 0), false);
        putSmall(x, 5);
        due("of reads that are not written", x.turn(0, 0), false);
        due("finish()", x.finish(), 62);
        due("nothing is damaged", x.check(), 5);
        x.clear();
        due("after clear", x.turn(0, 0), false);
    }

    private static void bitsTooSmallAndTooLarge() {
        BinnedReads x = storeOfSmall(1);
        for (int bit : new int[] {LOW, -32, -8, -1, 8, 9, 31, 32, 33, 64, HIGH}) {
            due("turn(5, " + bit + ")", x.turn(5, bit), false);
        }
        due("nothing is damaged", x.check(), 1);
        x.turn(5, 0);
        for (int bit : new int[] {-8, 8, 32, -32, LOW}) {
            due("turn(5, " + bit + ") when bit 0 is turned", x.turn(5, bit), false);
        }
        due("turn(4, 8) when bit 0 of the next is turned", x.turn(4, 8), false);
        due("turn(6, -8) when bit 0 of the one before is turned", x.turn(6, -8), false);
        due("the damage stays", x.check(), -2);
    }

    /** The first and the last bit of bytes at the edges and within; all others are refused beside it. */
    private static void anotherBitIsTurned() {
        int[][] turned = {{0, 0}, {0, 7}, {1, 0}, {1, 7}, {14, 3}, {29, 0}, {29, 7}};
        for (int[] one : turned) {
            BinnedReads x = storeOfSmall(1);
            int before = x.byteAt(one[0]);
            due("turn(" + one[0] + ", " + one[1] + ")", x.turn(one[0], one[1]), true);
            for (int k = 0; k < 30; k++) {
                for (int bit = 0; bit <= 7; bit++) {
                    if (k != one[0] || bit != one[1]) {
                        due("turn(" + k + ", " + bit + ") beside it", x.turn(k, bit), false);
                    }
                }
            }
            due("it stays turned", x.byteAt(one[0]), before ^ 1 << one[1]);
            due("it alone is turned back", x.turn(one[0], one[1]), true);
            due("check()", x.check(), 1);
        }
    }

    private static void turnedBack() {
        BinnedReads x = storeOfSmall(1);
        due("the last bit", x.turn(29, 7), true);
        due("check()", x.check(), -2);
        due("the last bit back", x.turn(29, 7), true);
        due("check()", x.check(), 1);
        due("another may be turned now", x.turn(0, 0), true);
        due("not the old one", x.turn(29, 7), false);
        due("back", x.turn(0, 0), true);
        due("and again", x.turn(0, 0), true);
        due("check()", x.check(), -2);
        due("and back", x.turn(0, 0), true);
        due("check()", x.check(), 1);
    }

    // Promise 9

    private static void theLeastAndTheGreatestByte() {
        BinnedReads x = storeOfSmall(1);
        due("0", x.byteAt(4), 0);
        due("255, which is not NONE", x.byteAt(6), 255);
        x.turn(4, 7);
        due("0 with its highest bit turned", x.byteAt(4), 128);
        x.turn(4, 7);
        due("0 again", x.byteAt(4), 0);
        x.turn(6, 7);
        due("255 with its highest bit turned", x.byteAt(6), 127);
        x.turn(6, 7);
        due("255 again", x.byteAt(6), 255);
    }

    private static void theFirstAndTheLastByte() {
        BinnedReads x = storeOfSmall(6);
        due("the first", x.byteAt(0), 31);
        due("the first of the piece", x.byteAt(7), 7);
        due("the last of the piece", x.byteAt(46), 7);
        due("the first of the second block", x.byteAt(51), 31);
        due("the last of its piece", x.byteAt(65), 7);
        due("the first of the last block", x.byteAt(70), 31);
        due("the last", x.byteAt(80), 0);
    }

    private static void noSuchByte() {
        BinnedReads x = storeOfSmall(6);
        for (int k : new int[] {LOW, -81, -1, 81, 82, 692, 693, 700, 65536, HIGH}) {
            due("byteAt(" + k + ")", x.byteAt(k), NONE);
        }
    }

    private static void noByteWhenNothingIsWritten() {
        BinnedReads x = new BinnedReads();
        for (int k : new int[] {LOW, -1, 0, 1, 10, HIGH}) {
            due("byteAt(" + k + ") of a new object", x.byteAt(k), NONE);
        }
        putSmall(x, 1);
        due("byteAt(0) of a read that is not written", x.byteAt(0), NONE);
        x.finish();
        due("byteAt(0)", x.byteAt(0), 31);
        x.clear();
        due("byteAt(0) after clear", x.byteAt(0), NONE);
    }

    // Promise 10

    private static void checkOfNoneAndOf24() {
        due("no reads", storeOfSmall(0).check(), 0);
        due("one read", storeOfSmall(1).check(), 1);
        due("24 reads", storeOfSmall(24).check(), 24);
        due("a read of reference 1", storeOf(1, 4095, 1).check(), 1);
    }

    private static void checkWhenNothingIsWritten() {
        BinnedReads x = new BinnedReads();
        due("a new object", x.check(), -1);
        putSmall(x, 24);
        due("24 reads that are not written", x.check(), -1);
        x.finish();
        x.turn(0, 0);
        x.clear();
        due("after clear", x.check(), -1);
    }

    private static void checkOfEachBitOfEachBlock() {
        for (int k = 0; k < 81; k++) {
            BinnedReads x = storeOfSmall(6);
            for (int bit = 0; bit <= 7; bit++) {
                x.turn(k, bit);
                due("check() with bit " + bit + " of byte " + k, x.check(), -2);
                x.turn(k, bit);
                due("check() with it turned back", x.check(), 6);
            }
        }
    }

    private static void checkOfTheSmallestDisk() {
        for (int k = 0; k < 11; k++) {
            BinnedReads x = storeOfSmall(0);
            x.turn(k, 7 - k % 8);
            due("check() with byte " + k, x.check(), -2);
            x.turn(k, 7 - k % 8);
            due("check() with it turned back", x.check(), 0);
        }
    }

    // Promise 11

    private static void theSmallestAndTheGreatestRegions() {
        for (int reference = 0; reference <= 1; reference++) {
            BinnedReads x = new BinnedReads();
            putSpan(x, reference, 0, 1);
            putSpan(x, reference, 4095, 1);
            x.finish();
            due("the first place", x.query(reference, 0, 1), 1);
            due("the last place", x.query(reference, 4095, 4096), 1);
            due("all places", x.query(reference, 0, 4096), 2);
            due("all but the first", x.query(reference, 1, 4096), 1);
            due("all but the last", x.query(reference, 0, 4095), 1);
            due("all but the first and the last", x.query(reference, 1, 4095), 0);
        }
    }

    private static void theSmallestAndTheGreatestFinding() {
        BinnedReads empty = storeOfSmall(0);
        due("of no reads", empty.query(0, 0, 4096), 0);
        BinnedReads x = storeOfSmall(24);
        due("none", x.query(0, 1, 64), 0);
        due("one", x.query(0, 1, 65), 1);
        due("all but the last", x.query(0, 0, 23 * 64), 23);
        due("all", x.query(0, 0, 23 * 64 + 1), 24);
        due("all but the first", x.query(0, 1, 4096), 23);
    }

    private static void queryWhenNothingIsWritten() {
        BinnedReads x = new BinnedReads();
        due("a new object", x.query(0, 0, 4096), -1);
        putSmall(x, 2);
        due("reads that are not written", x.query(0, 0, 4096), -1);
        x.finish();
        due("written", x.query(0, 0, 4096), 2);
        x.clear();
        due("after clear", x.query(0, 0, 4096), -1);
    }

    private static void referencesTooSmallAndTooLarge() {
        BinnedReads x = storeOfSmall(2);
        for (int reference : new int[] {LOW, -2, -1, 2, 3, 256, HIGH}) {
            due("query(" + reference + ", 0, 4096)", x.query(reference, 0, 4096), -1);
        }
        due("query(0, 0, 4096)", x.query(0, 0, 4096), 2);
        due("query(1, 0, 4096)", x.query(1, 0, 4096), 0);
    }

    private static void begsTooSmall() {
        BinnedReads x = storeOfSmall(2);
        for (int beg : new int[] {LOW, -64, -63, -1}) {
            due("query(0, " + beg + ", 1)", x.query(0, beg, 1), -1);
            due("query(0, " + beg + ", 4096)", x.query(0, beg, 4096), -1);
        }
        due("query(0, 0, 1)", x.query(0, 0, 1), 1);
    }

    private static void endsTooLarge() {
        BinnedReads x = storeOf(0, 4095, 1);
        for (int end : new int[] {4097, 4160, 65536, HIGH}) {
            due("query(0, 0, " + end + ")", x.query(0, 0, end), -1);
            due("query(0, 4095, " + end + ")", x.query(0, 4095, end), -1);
            due("query(0, 4096, " + end + ")", x.query(0, 4096, end), -1);
        }
        due("query(0, 4095, 4096)", x.query(0, 4095, 4096), 1);
    }

    private static void begsThatAreNotLess() {
        BinnedReads x = storeOf(0, 0, 189);
        for (int place : new int[] {0, 1, 63, 64, 188, 4095, 4096}) {
            due("query(0, " + place + ", " + place + ")", x.query(0, place, place), -1);
        }
        due("query(0, 1, 0)", x.query(0, 1, 0), -1);
        due("query(0, 100, 99)", x.query(0, 100, 99), -1);
        due("query(0, 4096, 0)", x.query(0, 4096, 0), -1);
        due("query(0, 99, 100)", x.query(0, 99, 100), 1);
    }

    /** end - beg would be greater than 0 for the first two, and less for the third. */
    private static void regionsThatWrapAround() {
        BinnedReads x = storeOf(0, 0, 189);
        due("query(0, HIGH, LOW)", x.query(0, HIGH, LOW), -1);
        due("query(0, 10, LOW)", x.query(0, 10, LOW), -1);
        due("query(0, LOW, HIGH)", x.query(0, LOW, HIGH), -1);
        due("query(0, LOW, LOW)", x.query(0, LOW, LOW), -1);
        due("query(0, HIGH, HIGH)", x.query(0, HIGH, HIGH), -1);
    }

    private static void minus1BeforeMinus2() {
        BinnedReads x = storeOfSmall(1);
        x.turn(0, 0);
        due("a good region", x.query(0, 0, 1), -2);
        due("no such reference", x.query(2, 0, 1), -1);
        due("beg less than 0", x.query(0, -1, 1), -1);
        due("end more than 4096", x.query(0, 0, 4097), -1);
        due("beg not less than end", x.query(0, 0, 0), -1);
    }

    /** The third read has its first byte alone in the first block. */
    private static BinnedReads storeOfThreeWithACutRow() {
        BinnedReads x = new BinnedReads();
        putBases(x, 0, 0, 24);
        putBases(x, 0, 64, 22);
        putSpan(x, 0, 128, 1);
        due("39 bytes before, 47 in all", x.finish(), 47 + 33);
        return x;
    }

    private static void onlyItsFirstByteIsDamaged() {
        BinnedReads x = storeOfThreeWithACutRow();
        due("all is well", x.query(0, 128, 129), 1);
        due("its offset", x.found(0, 0), 39);
        x.turn(46, 0);
        due("its first byte itself", x.query(0, 128, 129), -2);
        x.turn(46, 0);
        x.turn(0, 7);
        due("the block of its first byte", x.query(0, 128, 129), -2);
        x.turn(0, 7);
        x.turn(51, 0);
        due("the block of its other bytes", x.query(0, 128, 129), -2);
        due("the read before", x.query(0, 64, 65), 1);
        due("both before", x.query(0, 0, 65), 2);
        due("all three", x.query(0, 0, 129), -2);
    }

    /** 16 + 16 + 9 bytes: the third read has its last byte alone in the second block. */
    private static void onlyItsLastByteIsDamaged() {
        BinnedReads x = new BinnedReads();
        putBases(x, 0, 0, 16);
        putBases(x, 0, 64, 16);
        putBases(x, 0, 128, 1);
        due("41 bytes", x.finish(), 41 + 33);
        x.turn(58, 7);
        due("its last byte itself", x.query(0, 128, 129), -2);
        x.turn(58, 7);
        x.turn(62, 7);
        due("the last byte of the sum of its block", x.query(0, 128, 129), -2);
        due("the read before", x.query(0, 64, 65), 1);
        x.turn(62, 7);
        x.turn(63, 0);
        due("the empty block", x.query(0, 128, 129), 1);
    }

    private static void lookedAtButNotFound() {
        BinnedReads x = storeOf(0, 10, 5);
        queryIs(x, 0, 63, 64, 1, 0);
        x.turn(18, 7);
        due("looked at, not found", x.query(0, 63, 64), -2);
        due("not looked at", x.query(0, 64, 65), 0);
        due("the other reference", x.query(1, 0, 4096), 0);
    }

    private static void lookedAtInTheLastBlock() {
        BinnedReads x = storeOfSmall(24);
        x.turn(204, 0);
        due("up to the last read of the fourth block", x.query(0, 0, 19 * 64 + 1), 20);
        due("one read more", x.query(0, 0, 20 * 64 + 1), -2);
        due("the last read", x.query(0, 23 * 64, 23 * 64 + 1), -2);
        x.turn(204, 0);
        x.turn(203, 7);
        due("behind the fourth block", x.query(0, 20 * 64, 4096), 4);
        due("one read more", x.query(0, 19 * 64, 4096), -2);
    }

    private static void noByteInTheDamagedBlock() {
        BinnedReads x = storeOfSmall(6);
        x.turn(70, 0);
        due("the empty block, all reads", x.query(0, 0, 4096), 6);
        x.turn(70, 0);
        x.turn(50, 7);
        due("the read of the second block", x.query(0, 320, 321), 1);
        due("no read is looked at", x.query(0, 384, 385), 0);
        x.turn(50, 7);
        x.turn(51, 0);
        due("the reads of the first block", x.query(0, 0, 257), 5);
        BinnedReads empty = storeOfSmall(0);
        empty.turn(0, 0);
        due("a disk without reads", empty.query(0, 0, 4096), 0);
    }

    // Promise 12

    private static void lookedAtNoneAndAt24() {
        BinnedReads x = storeOfSmall(24);
        queryIs(x, 0, 0, 4096, 24, 24);
        queryIs(x, 1, 0, 4096, 0, 0);
        queryIs(x, 0, 4095, 4096, 0, 0);
        queryIs(x, 0, 1, 2, 1, 0);
    }

    private static void lookedAfterRefusedQueries() {
        BinnedReads x = storeOfSmall(6);
        x.query(0, 0, 257);
        due("looked()", x.looked(), 5);
        x.query(0, 0, 0);
        due("looked() after -1", x.looked(), 5);
        x.turn(51, 0);
        due("a query of the damaged block", x.query(0, 0, 4096), -2);
        due("looked() after -2", x.looked(), 5);
        due("a query of none", x.query(0, 384, 385), 0);
        due("looked() after 0", x.looked(), 0);
        x.query(0, 0, 4096);
        due("looked() of the query that answered 0", x.looked(), 0);
    }

    private static void lookedWithoutAQuery() {
        BinnedReads x = new BinnedReads();
        due("a new object", x.looked(), 0);
        x.query(0, 0, 4096);
        due("a query before the disk is written", x.looked(), 0);
        putSmall(x, 1);
        x.finish();
        due("a written disk", x.looked(), 0);
        x.query(0, 5, 5);
        due("a query that answered -1", x.looked(), 0);
        x.turn(0, 0);
        x.query(0, 0, 4096);
        due("a query that answered -2", x.looked(), 0);
        x.turn(0, 0);
        x.query(0, 0, 4096);
        due("a query that answered 1", x.looked(), 1);
        x.clear();
        due("after clear", x.looked(), 0);
    }

    // Promise 13

    private static void theLatestQueryThatAnswered() {
        BinnedReads x = storeOfSmall(6);
        nothingIsFound(x);
        x.query(0, 5, 5);
        nothingIsFound(x);
        due("two", x.query(0, 64, 129), 2);
        due("-1", x.query(0, 320, 320), -1);
        due("read 0", x.found(0, 1), 64);
        due("read 1", x.found(1, 1), 128);
        x.turn(51, 0);
        due("-2", x.query(0, 0, 4096), -2);
        due("read 0", x.found(0, 1), 64);
        due("read 1", x.found(1, 1), 128);
        due("read 2", x.found(2, 1), NONE);
        due("one", x.query(0, 0, 1), 1);
        due("read 0", x.found(0, 1), 0);
        due("read 1", x.found(1, 1), NONE);
    }

    private static void theLeastAndTheGreatestOfEach() {
        BinnedReads least = storeOf(0, 0, 1);
        least.query(0, 0, 1);
        foundIs(least, 0, 0, 0, 9, 1, 1, 0);
        BinnedReads greatest = storeOf(1, 4095, 1);
        greatest.query(1, 4095, 4096);
        foundIs(greatest, 0, 0, 4095, 72, 4096, 1, 0);
        BinnedReads x = new BinnedReads();
        x.op(0, 24);
        x.op(2, 63);
        x.op(3, 63);
        appendBases(x, 24);
        x.add(0, 500);
        x.finish();
        x.query(0, 649, 650);
        foundIs(x, 0, 0, 500, 0, 650, 3, 24);
        BinnedReads many = new BinnedReads();
        for (int i = 0; i < 18; i++) {
            putBases(many, 0, i, 24);
        }
        many.finish();
        due("the last place of the first", many.query(0, 23, 24), 18);
        foundIs(many, 17, 64 * 408 + 20, 17, 9, 41, 1, 24);
    }

    private static void noSuchRead() {
        BinnedReads x = storeOfSmall(3);
        due("two", x.query(0, 0, 65), 2);
        for (int k : new int[] {LOW, -24, -1, 2, 3, 23, 24, 25, HIGH}) {
            foundIs(x, k, NONE, NONE, NONE, NONE, NONE, NONE);
        }
        foundIs(x, 1, 8, 64, 10, 65, 1, 0);
        BinnedReads full = storeOfSmall(24);
        full.query(0, 0, 4096);
        due("the last of 24", full.found(23, 1), 23 * 64);
        due("none behind", full.found(24, 1), NONE);
    }

    private static void anEmptyFinding() {
        BinnedReads x = new BinnedReads();
        nothingIsFound(x);
        putBases(x, 0, 0, 1);
        nothingIsFound(x);
        x.finish();
        nothingIsFound(x);
        due("one", x.query(0, 0, 1), 1);
        due("none", x.query(0, 1, 2), 0);
        nothingIsFound(x);
        due("one", x.query(0, 0, 1), 1);
        x.clear();
        nothingIsFound(x);
    }

    private static void whichTooSmallAndTooLarge() {
        BinnedReads x = storeOfSmall(1);
        x.query(0, 0, 1);
        for (int which : new int[] {LOW, -6, -1, 6, 7, 256, HIGH}) {
            due("found(0, " + which + ")", x.found(0, which), NONE);
            due("found(1, " + which + ")", x.found(1, which), NONE);
        }
        due("found(0, 0)", x.found(0, 0), 0);
        due("found(0, 5)", x.found(0, 5), 0);
    }

    // Promise 14

    /** Two reads: one of the op 4 alone, one of three ops, the greatest and two others. */
    private static BinnedReads storeOfOps() {
        BinnedReads x = new BinnedReads();
        x.op(0, 1);
        x.base(9);
        x.add(0, 0);
        x.op(3, 63);
        x.op(1, 24);
        x.op(2, 1);
        appendBases(x, 24);
        x.add(0, 0);
        x.finish();
        due("both", x.query(0, 0, 1), 2);
        return x;
    }

    private static void theLeastAndTheGreatestOp() {
        BinnedReads x = storeOfOps();
        due("foundOp(0, 0)", x.foundOp(0, 0), 4);
        due("foundOp(1, 0)", x.foundOp(1, 0), 255);
        due("foundOp(1, 1)", x.foundOp(1, 1), 97);
        due("foundOp(1, 2)", x.foundOp(1, 2), 6);
    }

    private static void noSuchOp() {
        BinnedReads x = storeOfOps();
        for (int i : new int[] {LOW, -7, -1, 1, 2, 3, HIGH - 7, HIGH}) {
            due("foundOp(0, " + i + ")", x.foundOp(0, i), NONE);
        }
        for (int i : new int[] {LOW, -7, -1, 3, 4, 15, HIGH - 7, HIGH}) {
            due("foundOp(1, " + i + ")", x.foundOp(1, i), NONE);
        }
    }

    private static void noReadOfTheOp() {
        BinnedReads x = storeOfOps();
        for (int k : new int[] {LOW, -1, 2, 23, 24, HIGH}) {
            due("foundOp(" + k + ", 0)", x.foundOp(k, 0), NONE);
        }
        due("none", x.query(0, 4095, 4096), 0);
        due("foundOp(0, 0) of an empty finding", x.foundOp(0, 0), NONE);
        due("foundOp(0, 0) before a query", storeOfSmall(1).foundOp(0, 0), NONE);
        due("foundOp(0, 0) of a new object", new BinnedReads().foundOp(0, 0), NONE);
    }

    // Promise 15

    /** Three reads: without bases, with three, with 24. */
    private static BinnedReads storeOfBases() {
        BinnedReads x = new BinnedReads();
        putSpan(x, 0, 0, 1);
        x.op(0, 3);
        x.base(0);
        x.base(15);
        x.base(15);
        x.add(0, 0);
        putBases(x, 0, 0, 24);
        x.finish();
        due("all", x.query(0, 0, 1), 3);
        return x;
    }

    private static void theFirstAndTheLastBase() {
        BinnedReads x = storeOfBases();
        due("foundBase(1, 0)", x.foundBase(1, 0), 0);
        due("foundBase(1, 1)", x.foundBase(1, 1), 15);
        due("foundBase(1, 2)", x.foundBase(1, 2), 15);
        for (int i = 0; i < 24; i++) {
            due("foundBase(2, " + i + ")", x.foundBase(2, i), 15 - i % 16);
        }
    }

    private static void noSuchBase() {
        BinnedReads x = storeOfBases();
        for (int i : new int[] {LOW, -2, -1, 0, 1, 24, HIGH - 1, HIGH}) {
            due("foundBase(0, " + i + ")", x.foundBase(0, i), NONE);
        }
        // The 0 that fills up the last byte is no base.
        for (int i : new int[] {LOW, -2, -1, 3, 4, 24, HIGH - 1, HIGH}) {
            due("foundBase(1, " + i + ")", x.foundBase(1, i), NONE);
        }
        for (int i : new int[] {LOW, -2, -1, 24, 25, HIGH - 1, HIGH}) {
            due("foundBase(2, " + i + ")", x.foundBase(2, i), NONE);
        }
    }

    private static void noReadOfTheBase() {
        BinnedReads x = storeOfBases();
        for (int k : new int[] {LOW, -1, 3, 23, 24, HIGH}) {
            due("foundBase(" + k + ", 0)", x.foundBase(k, 0), NONE);
        }
        due("none", x.query(0, 4095, 4096), 0);
        due("foundBase(1, 0) of an empty finding", x.foundBase(1, 0), NONE);
        BinnedReads y = new BinnedReads();
        due("foundBase(0, 0) of a new object", y.foundBase(0, 0), NONE);
        putBases(y, 0, 0, 1);
        y.finish();
        due("foundBase(0, 0) before a query", y.foundBase(0, 0), NONE);
    }

    // Promises 13 to 15

    private static void theFindingWhileTheDiskIsDamaged() {
        for (int k = 0; k < 33; k++) {
            BinnedReads x = new BinnedReads();
            putBases(x, 0, 500, 5);
            due("size", x.finish(), 11 + 22);
            x.query(0, 500, 501);
            for (int bit = 0; bit <= 7; bit++) {
                due("turn(" + k + ", " + bit + ")", x.turn(k, bit), true);
                foundIs(x, 0, 0, 500, 16, 505, 1, 5);
                due("foundOp(0, 0)", x.foundOp(0, 0), 20);
                due("foundBase(0, 4)", x.foundBase(0, 4), 11);
                due("looked()", x.looked(), 1);
                x.turn(k, bit);
            }
        }
    }
}
