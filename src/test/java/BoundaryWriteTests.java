/** The boundary cases of the promises 1 to 7. Each test is listed with its promise and sentence. */
public final class BoundaryWriteTests extends BoundaryTest {
    public static void main(String[] args) {
        testNewObjects();
        testDrafts();
        testAdd();
        testAddRefusals();
        testFinishAndClear();
        endTests();
    }

    private static void testNewObjects() {
        test("Promise 1", "An empty draft", BoundaryWriteTests::aNewDraftIsEmpty);
        test("Promise 1", "no reads", BoundaryWriteTests::aNewObjectHasNoReads);
        test("Promise 1", "nothing written", BoundaryWriteTests::aNewObjectHasNothingWritten);
        test("Promise 1", "nothing found", BoundaryWriteTests::aNewObjectHasNothingFound);
        test("Promise 1", "An empty draft, no reads, nothing written, nothing found.",
                BoundaryWriteTests::aNewObjectBesideAFullOne);
    }

    private static void testDrafts() {
        test("Promise 2", "false when the kind is not 0 .. 3", BoundaryWriteTests::kindsTooSmallAndTooLarge);
        test("Promise 2", "the length is not 1 .. 63", BoundaryWriteTests::lengthsTooSmallAndTooLarge);
        test("Promise 2", "the length is not 1 .. 63", BoundaryWriteTests::lengthsThatWrapAround);
        test("Promise 2", "or it has three.", BoundaryWriteTests::aFourthOp);
        test("Promise 2", "Appends an op to the draft", BoundaryWriteTests::opsBehindOneAnother);
        test("Promise 3", "false when it is not 0 .. 15", BoundaryWriteTests::basesTooSmallAndTooLarge);
        test("Promise 3", "or it has 24.", BoundaryWriteTests::a25thBase);
        test("Promise 3", "Appends a base to the draft", BoundaryWriteTests::basesWithoutAnOp);
        test("Promise 4", "The draft has no ops and no bases.", BoundaryWriteTests::scrapOfAnEmptyDraft);
        test("Promise 4", "The draft has no ops and no bases.", BoundaryWriteTests::scrapOfAFullDraft);
        test("Promise 4", "The draft has no ops and no bases.", BoundaryWriteTests::scrapLeavesAllElse);
    }

    private static void testAdd() {
        test("Promise 5", "Adds a read with the ops and bases of the draft",
                BoundaryWriteTests::theSmallestAndTheGreatestDraft);
        test("Promise 5", "which is empty then", BoundaryWriteTests::theDraftIsEmptyThen);
        test("Promise 5", "its number.", BoundaryWriteTests::theFirstAndTheLastNumber);
        test("Promise 5", "Else the first of these that holds", BoundaryWriteTests::theFirstThatHolds);
    }

    private static void testAddRefusals() {
        test("Promise 5", "-1 the disk is written", BoundaryWriteTests::addWhenWritten);
        test("Promise 5", "or 24 are there", BoundaryWriteTests::addWhenFull);
        test("Promise 5", "-2 the draft has no op", BoundaryWriteTests::addWithoutAnOp);
        test("Promise 5", "its span is 0", BoundaryWriteTests::addWithoutASpan);
        test("Promise 5", "or its width is not the number of its bases",
                BoundaryWriteTests::addWithABaseTooFewOrTooMany);
        test("Promise 5", "-3 there is no such reference", BoundaryWriteTests::referencesTooSmallAndTooLarge);
        test("Promise 5", "the position is not 0 .. 4095", BoundaryWriteTests::positionsTooSmallAndTooLarge);
        test("Promise 5", "or the end would be more than 4096", BoundaryWriteTests::endsTooLarge);
        test("Promise 5", "or the end would be more than 4096", BoundaryWriteTests::endsThatWrapAround);
        test("Promise 5", "-4 it would come before the last one.", BoundaryWriteTests::beforeTheLastOne);
        test("Promise 5", "-4 it would come before the last one.", BoundaryWriteTests::beforeNone);
    }

    private static void testFinishAndClear() {
        test("Promise 6", "Writes the disk: how many bytes it has.", BoundaryWriteTests::theSmallestDisk);
        test("Promise 6", "Writes the disk: how many bytes it has.", BoundaryWriteTests::aDiskOf24Reads);
        test("Promise 6", "Writes the disk: how many bytes it has.", BoundaryWriteTests::theLongestRowsWithin512Calls);
        test("Promise 6", "-1 when it is written.", BoundaryWriteTests::finishWhenWritten);
        test("Promise 7", "All is as at first.", BoundaryWriteTests::clearOfANewObject);
        test("Promise 7", "All is as at first.", BoundaryWriteTests::clearOfAFullDraft);
        test("Promise 7", "All is as at first.", BoundaryWriteTests::clearOf24Reads);
        test("Promise 7", "All is as at first.", BoundaryWriteTests::clearOfAWrittenDisk);
        test("Promise 7", "All is as at first.", BoundaryWriteTests::clearOfADamagedDisk);
        test("Promise 7", "All is as at first.", BoundaryWriteTests::clearOfAFinding);
        test("Promise 7", "All is as at first.", BoundaryWriteTests::aSmallerStoreAfterClear);
        test("Promise 7", "All is as at first.", BoundaryWriteTests::aGreaterStoreAfterClear);
    }

    // Promise 1

    private static void aNewDraftIsEmpty() {
        BinnedReads x = new BinnedReads();
        due("add(0, 0)", x.add(0, 0), -2);
        takes(x, 3, 24);
    }

    private static void aNewObjectHasNoReads() {
        BinnedReads x = new BinnedReads();
        due("the disk of no reads", x.finish(), 11);
        due("check()", x.check(), 0);
        BinnedReads y = new BinnedReads();
        due("the first number", putSpan(y, 0, 0, 1), 0);
    }

    private static void aNewObjectHasNothingWritten() {
        BinnedReads x = new BinnedReads();
        due("byteAt(0)", x.byteAt(0), NONE);
        due("turn(0, 0)", x.turn(0, 0), false);
        due("check()", x.check(), -1);
        due("query(0, 0, 4096)", x.query(0, 0, 4096), -1);
        due("finish()", x.finish(), 11);
    }

    private static void aNewObjectHasNothingFound() {
        BinnedReads x = new BinnedReads();
        due("looked()", x.looked(), 0);
        nothingIsFound(x);
    }

    private static void aNewObjectBesideAFullOne() {
        BinnedReads x = new BinnedReads();
        BinnedReads full = storeOfSmall(24);
        full.query(0, 0, 4096);
        full.turn(0, 0);
        full.op(3, 1);
        isAsAtFirst(x);
        isAsAtFirst(new BinnedReads());
    }

    // Promise 2

    private static void kindsTooSmallAndTooLarge() {
        for (int kind : new int[] {LOW, -4, -1, 4, 5, 256, HIGH}) {
            BinnedReads x = new BinnedReads();
            due("op(" + kind + ", 1)", x.op(kind, 1), false);
            due("op(" + kind + ", 63)", x.op(kind, 63), false);
            draftIsEmpty(x);
        }
        for (int kind = 0; kind <= 3; kind++) {
            due("op(" + kind + ", 1)", new BinnedReads().op(kind, 1), true);
        }
    }

    private static void lengthsTooSmallAndTooLarge() {
        for (int kind = 0; kind <= 3; kind++) {
            for (int length : new int[] {LOW, -63, -1, 0, 64, 65, 127, 256, HIGH}) {
                BinnedReads x = new BinnedReads();
                due("op(" + kind + ", " + length + ")", x.op(kind, length), false);
                draftIsEmpty(x);
            }
            due("op(" + kind + ", 1)", new BinnedReads().op(kind, 1), true);
            due("op(" + kind + ", 63)", new BinnedReads().op(kind, 63), true);
        }
    }

    /** 4 * length would be 4 or 252 again for these. */
    private static void lengthsThatWrapAround() {
        for (int length : new int[] {(1 << 30) + 1, (1 << 30) + 63, LOW + 1, LOW + 63}) {
            due("op(3, " + length + ")", new BinnedReads().op(3, length), false);
        }
    }

    private static void aFourthOp() {
        for (int kind = 0; kind <= 3; kind++) {
            BinnedReads x = new BinnedReads();
            due("the first", x.op(3, 1), true);
            due("the second", x.op(3, 2), true);
            due("the third", x.op(3, 3), true);
            due("a fourth of kind " + kind, x.op(kind, 1), false);
            due("add", x.add(0, 0), 0);
            due("a fourth, but the first of the next draft", x.op(kind, 1), true);
        }
    }

    private static void opsBehindOneAnother() {
        BinnedReads x = new BinnedReads();
        x.op(2, 1);
        x.op(4, 9);
        x.op(2, 63);
        x.op(2, 64);
        x.op(2, 2);
        x.add(0, 0);
        x.finish();
        x.query(0, 0, 1);
        due("op 0", x.foundOp(0, 0), 6);
        due("op 1", x.foundOp(0, 1), 254);
        due("op 2", x.foundOp(0, 2), 10);
    }

    // Promise 3

    private static void basesTooSmallAndTooLarge() {
        for (int code : new int[] {LOW, -16, -1, 16, 17, 256, HIGH}) {
            BinnedReads x = new BinnedReads();
            due("base(" + code + ")", x.base(code), false);
            draftIsEmpty(x);
        }
        for (int code = 0; code <= 15; code++) {
            due("base(" + code + ")", new BinnedReads().base(code), true);
        }
    }

    private static void a25thBase() {
        BinnedReads x = new BinnedReads();
        x.op(0, 24);
        for (int i = 0; i < 24; i++) {
            due("base " + i, x.base(15), true);
        }
        due("a 25th base", x.base(0), false);
        due("a 25th base", x.base(15), false);
        due("add", x.add(0, 0), 0);
        due("the first of the next draft", x.base(0), true);
    }

    private static void basesWithoutAnOp() {
        BinnedReads x = new BinnedReads();
        for (int i = 0; i < 24; i++) {
            due("base " + i, x.base(i % 16), true);
        }
        due("a 25th base", x.base(0), false);
        due("the op may come behind", x.op(0, 24), true);
        due("add", x.add(0, 0), 0);
    }

    // Promise 4

    private static void scrapOfAnEmptyDraft() {
        BinnedReads x = new BinnedReads();
        x.scrap();
        due("add(0, 0)", x.add(0, 0), -2);
        draftIsEmpty(x);
        x.scrap();
        x.scrap();
        draftIsEmpty(x);
    }

    private static void scrapOfAFullDraft() {
        BinnedReads x = new BinnedReads();
        takes(x, 3, 24);
        x.scrap();
        due("no op is left", x.add(0, 0), -2);
        takes(x, 3, 24);
        x.scrap();
        x.op(2, 5);
        due("no base is left", x.add(0, 0), 0);
        x.finish();
        x.query(0, 0, 1);
        foundIs(x, 0, 0, 0, 9, 5, 1, 0);
    }

    private static void scrapLeavesAllElse() {
        BinnedReads x = new BinnedReads();
        putSpan(x, 0, 5, 2);
        x.scrap();
        due("the next number", putSpan(x, 0, 5, 3), 1);
        x.finish();
        x.query(0, 0, 4096);
        x.turn(0, 0);
        x.scrap();
        due("the disk stays", x.byteAt(0), 30);
        due("the damage stays", x.turn(1, 0), false);
        due("looked() stays", x.looked(), 2);
        foundIs(x, 1, 8, 5, 9, 8, 1, 0);
    }

    // Promise 5

    private static void theSmallestAndTheGreatestDraft() {
        BinnedReads x = new BinnedReads();
        x.op(2, 1);
        due("one op of length 1", x.add(0, 0), 0);
        x.op(0, 24);
        x.op(2, 63);
        x.op(3, 63);
        appendBases(x, 24);
        due("three ops, 24 bases", x.add(0, 0), 1);
        x.finish();
        due("both", x.query(0, 0, 1), 2);
        foundIs(x, 0, 0, 0, 9, 1, 1, 0);
        foundIs(x, 1, 8, 0, 1, 150, 3, 24);
        due("its last op", x.foundOp(1, 2), 255);
        due("its last base", x.foundBase(1, 23), 8);
    }

    private static void theDraftIsEmptyThen() {
        BinnedReads x = new BinnedReads();
        putBases(x, 0, 0, 24);
        due("no op is left", x.add(0, 0), -2);
        draftIsEmpty(x);
        x.op(3, 1);
        due("no base is left", x.add(0, 0), 1);
    }

    private static void theFirstAndTheLastNumber() {
        BinnedReads x = new BinnedReads();
        for (int i = 0; i <= 23; i++) {
            due("number", putSpan(x, i / 12, 4095, 1), i);
        }
    }

    /** Each call is refused for two reasons at least; the answer tells the first of them. */
    private static void theFirstThatHolds() {
        BinnedReads x = new BinnedReads();
        putSpan(x, 1, 5, 1);
        due("-2 and -3 and -4", x.add(-1, 0), -2);
        due("-2 and -4", x.add(0, 0), -2);
        x.op(3, 2);
        due("-3 and -4", x.add(0, 4095), -3);
        due("-3 and -4", x.add(-1, 0), -3);
        due("-3 and -4", x.add(1, -1), -3);
        due("-4", x.add(1, 4), -4);
        x.finish();
        due("-1 and -4", x.add(1, 4), -1);
        due("-1 and -3", x.add(2, 0), -1);
        x.scrap();
        due("-1 and -2", x.add(1, 5), -1);
        theFirstThatHoldsWhenFull();
    }

    private static void theFirstThatHoldsWhenFull() {
        BinnedReads x = new BinnedReads();
        putSmall(x, 24);
        due("-1 and -2", x.add(0, 4095), -1);
        x.op(3, 2);
        due("-1 and -3", x.add(0, 4095), -1);
        due("-1 and -4", x.add(0, 0), -1);
    }

    private static void addWhenWritten() {
        BinnedReads x = storeOfSmall(1);
        due("a good read", putSpan(x, 1, 0, 1), -1);
        due("check()", x.check(), 1);
        BinnedReads empty = new BinnedReads();
        empty.finish();
        due("a first read", putSpan(empty, 0, 0, 1), -1);
        due("check()", empty.check(), 0);
        empty.clear();
        due("not written any more", putSpan(empty, 0, 0, 1), 0);
    }

    private static void addWhenFull() {
        BinnedReads x = new BinnedReads();
        putSmall(x, 23);
        due("the 24th", putSpan(x, 1, 0, 1), 23);
        due("a 25th", putSpan(x, 1, 0, 1), -1);
        due("a 25th, again", x.add(1, 4095), -1);
        due("the disk of 24", x.finish(), 24 * 8 + 11 * 6);
    }

    private static void addWithoutAnOp() {
        BinnedReads x = new BinnedReads();
        due("an empty draft", x.add(0, 0), -2);
        appendBases(x, 24);
        due("24 bases, no op", x.add(0, 0), -2);
        x.scrap();
        due("a scrapped draft", x.add(0, 0), -2);
    }

    private static void addWithoutASpan() {
        for (int ops = 1; ops <= 3; ops++) {
            BinnedReads x = new BinnedReads();
            for (int i = 0; i < ops; i++) {
                x.op(1, 8);
                appendBases(x, 8);
            }
            due(ops + " ops of kind 1", x.add(0, 0), -2);
        }
        BinnedReads x = new BinnedReads();
        x.op(1, 8);
        x.op(2, 1);
        appendBases(x, 8);
        due("a span of 1", x.add(0, 0), 0);
    }

    private static void addWithABaseTooFewOrTooMany() {
        for (int kind = 0; kind <= 3; kind++) {
            BinnedReads x = new BinnedReads();
            x.op(3, 1);
            x.op(kind, 7);
            int width = kind < 2 ? 7 : 0;
            if (width > 0) {
                appendBases(x, width - 1);
                due("a base too few for kind " + kind, x.add(0, 0), -2);
                x.base(0);
            }
            due("as many as kind " + kind + " has", x.add(0, 0), 0);
            x.op(3, 1);
            x.op(kind, 7);
            appendBases(x, width + 1);
            due("a base too many for kind " + kind, x.add(0, 0), -2);
        }
        widthsAbove24();
    }

    private static void widthsAbove24() {
        BinnedReads x = new BinnedReads();
        x.op(0, 25);
        appendBases(x, 24);
        due("a width of 25", x.add(0, 0), -2);
        x.op(1, 63);
        x.op(0, 63);
        due("a width of 151", x.add(0, 0), -2);
    }

    private static void referencesTooSmallAndTooLarge() {
        BinnedReads x = new BinnedReads();
        x.op(3, 1);
        for (int reference : new int[] {LOW, -2, -1, 2, 3, 256, HIGH}) {
            due("add(" + reference + ", 0)", x.add(reference, 0), -3);
        }
        due("add(0, 0)", x.add(0, 0), 0);
        x.op(3, 1);
        due("add(1, 0)", x.add(1, 0), 1);
    }

    private static void positionsTooSmallAndTooLarge() {
        for (int reference = 0; reference <= 1; reference++) {
            BinnedReads x = new BinnedReads();
            x.op(3, 1);
            for (int position : new int[] {LOW, -4096, -1, 4096, 4097, 65536, HIGH}) {
                due("add(" + reference + ", " + position + ")", x.add(reference, position), -3);
            }
            due("add(" + reference + ", 0)", x.add(reference, 0), 0);
            x.op(3, 1);
            due("add(" + reference + ", 4095)", x.add(reference, 4095), 1);
        }
    }

    private static void endsTooLarge() {
        for (int span : new int[] {1, 2, 63, 64, 126, 127, 189}) {
            BinnedReads x = new BinnedReads();
            due("an end of 4097", putSpan(x, 0, 4097 - span, span), -3);
            due("an end of 4096", x.add(0, 4096 - span), 0);
        }
        BinnedReads x = new BinnedReads();
        x.op(1, 20);
        x.op(0, 4);
        x.op(2, 6);
        appendBases(x, 24);
        due("an end of 4097", x.add(1, 4087), -3);
        due("an end of 4096, kind 1 not counted", x.add(1, 4086), 0);
    }

    private static void endsThatWrapAround() {
        BinnedReads x = new BinnedReads();
        x.op(3, 63);
        x.op(3, 63);
        x.op(3, 63);
        for (int position : new int[] {HIGH, HIGH - 187, HIGH - 188, HIGH - 189, LOW, LOW + 1, -189, -188}) {
            due("add(0, " + position + ")", x.add(0, position), -3);
        }
    }

    private static void beforeTheLastOne() {
        BinnedReads x = new BinnedReads();
        putSpan(x, 0, 4095, 1);
        x.op(3, 1);
        due("one place before", x.add(0, 4094), -4);
        due("the same place", x.add(0, 4095), 1);
        x.op(3, 1);
        due("the next reference", x.add(1, 0), 2);
        x.op(3, 1);
        due("the reference before, at the same place", x.add(0, 0), -4);
        due("the reference before, at the last place", x.add(0, 4095), -4);
        due("the same place", x.add(1, 0), 3);
        putSpan(x, 1, 1, 1);
        x.op(3, 1);
        due("one place before", x.add(1, 0), -4);
        due("the same place", x.add(1, 1), 5);
    }

    private static void beforeNone() {
        BinnedReads x = new BinnedReads();
        due("the first may be the first of all", putSpan(x, 0, 0, 1), 0);
        BinnedReads y = new BinnedReads();
        due("the first may be the last of all", putSpan(y, 1, 4095, 1), 0);
        y.clear();
        due("there is no last one any more", putSpan(y, 0, 0, 1), 0);
    }

    // Promise 6

    private static void theSmallestDisk() {
        BinnedReads x = new BinnedReads();
        due("no reads", x.finish(), 11);
        due("the last byte", x.byteAt(10), 0);
        due("no byte behind", x.byteAt(11), NONE);
        BinnedReads y = new BinnedReads();
        putSpan(y, 0, 0, 1);
        due("the smallest read", y.finish(), 30);
        blockIs(y, 0, 7, 0, 0, 0, 9, 1, 0, 7);
        blockIs(y, 19);
        due("no byte behind", y.byteAt(30), NONE);
    }

    private static void aDiskOf24Reads() {
        BinnedReads x = new BinnedReads();
        putSmall(x, 24);
        due("192 bytes in five blocks", x.finish(), 192 + 11 * 6);
        for (int block = 0; block < 5; block++) {
            bytesAre(x, 51 * block, 31, 139, 1, block < 4 ? 40 : 32, 0);
        }
        blockIs(x, 4 * 51 + 43);
        due("the last byte", x.byteAt(257), 0);
        due("no byte behind", x.byteAt(258), NONE);
        due("check()", x.check(), 24);
    }

    /** 18 reads of 26 calls each: with finish and check they are 470 calls. */
    private static void theLongestRowsWithin512Calls() {
        BinnedReads x = new BinnedReads();
        for (int i = 0; i < 18; i++) {
            putBases(x, 0, 64 * i, 24);
        }
        due("360 bytes in nine blocks", x.finish(), 18 * 20 + 11 * 10);
        due("check()", x.check(), 18);
        due("the last", x.query(0, 64 * 17, 4096), 1);
        due("its offset", x.found(0, 0), 64 * 51 * 8 + 20);
    }

    private static void finishWhenWritten() {
        BinnedReads x = new BinnedReads();
        due("the first time", x.finish(), 11);
        due("the second time", x.finish(), -1);
        due("the third time", x.finish(), -1);
        x.turn(0, 0);
        due("when damaged", x.finish(), -1);
        due("the damage stays", x.byteAt(0), 30);
        x.clear();
        due("after clear", x.finish(), 11);
        due("after clear, again", x.finish(), -1);
    }

    // Promise 7

    private static void clearOfANewObject() {
        BinnedReads x = new BinnedReads();
        x.clear();
        isAsAtFirst(x);
        x.clear();
        x.clear();
        isAsAtFirst(x);
    }

    private static void clearOfAFullDraft() {
        BinnedReads x = new BinnedReads();
        takes(x, 3, 24);
        x.clear();
        isAsAtFirst(x);
    }

    private static void clearOf24Reads() {
        BinnedReads x = new BinnedReads();
        putSmall(x, 24);
        x.clear();
        isAsAtFirst(x);
        due("the first number", putSpan(x, 0, 0, 1), 0);
        due("the disk of one read", x.finish(), 30);
        due("check()", x.check(), 1);
    }

    private static void clearOfAWrittenDisk() {
        BinnedReads x = storeOfSmall(6);
        x.clear();
        due("byteAt(0)", x.byteAt(0), NONE);
        due("byteAt(80)", x.byteAt(80), NONE);
        isAsAtFirst(x);
        due("it may be written again", x.finish(), 11);
        due("no byte of the old disk", x.byteAt(11), NONE);
    }

    private static void clearOfADamagedDisk() {
        BinnedReads x = storeOfSmall(6);
        x.turn(3, 3);
        x.clear();
        isAsAtFirst(x);
        putSmall(x, 6);
        due("finish()", x.finish(), 81);
        due("no byte is damaged", x.byteAt(3), 40);
        due("check()", x.check(), 6);
        due("another bit may be turned", x.turn(4, 4), true);
        due("and not the old one", x.turn(3, 3), false);
    }

    private static void clearOfAFinding() {
        BinnedReads x = new BinnedReads();
        putBases(x, 0, 0, 3);
        putBases(x, 0, 1, 3);
        x.finish();
        due("both", x.query(0, 2, 3), 2);
        x.clear();
        isAsAtFirst(x);
        due("finish()", x.finish(), 11);
        due("looked()", x.looked(), 0);
        nothingIsFound(x);
    }

    private static void aSmallerStoreAfterClear() {
        BinnedReads x = new BinnedReads();
        putBases(x, 0, 0, 24);
        putBases(x, 0, 0, 24);
        putBases(x, 1, 0, 24);
        x.finish();
        due("both", x.query(0, 0, 1), 2);
        x.clear();
        putBases(x, 0, 10, 1);
        due("a smaller disk", x.finish(), 31);
        blockIs(x, 0, 8, 0, 10, 0, 9, 1, 1, 4, 240);
        blockIs(x, 20);
        queryIs(x, 0, 0, 4096, 1, 1);
        foundIs(x, 0, 0, 10, 9, 11, 1, 1);
        due("no second base", x.foundBase(0, 1), NONE);
        due("no second read", x.found(1, 0), NONE);
        queryIs(x, 1, 0, 4096, 0, 0);
    }

    private static void aGreaterStoreAfterClear() {
        BinnedReads x = new BinnedReads();
        putBases(x, 1, 4000, 24);
        x.finish();
        due("one", x.query(1, 4000, 4001), 1);
        x.clear();
        putSmall(x, 11);
        due("a greater disk", x.finish(), 88 + 44);
        queryIs(x, 0, 0, 4096, 11, 11);
        foundIs(x, 0, 0, 0, 9, 1, 1, 0);
        foundIs(x, 5, 64 * 51, 320, 14, 321, 1, 0);
        foundIs(x, 10, 64 * 102, 640, 19, 641, 1, 0);
        queryIs(x, 1, 0, 4096, 0, 0);
        due("check()", x.check(), 11);
        x.turn(131, 0);
        due("check() of its last byte", x.check(), -2);
        due("no read is in the empty block", x.query(0, 0, 4096), 11);
    }

    private static void isAsAtFirst(BinnedReads x) {
        due("byteAt(0)", x.byteAt(0), NONE);
        due("turn(0, 0)", x.turn(0, 0), false);
        due("check()", x.check(), -1);
        due("query(0, 0, 4096)", x.query(0, 0, 4096), -1);
        due("looked()", x.looked(), 0);
        nothingIsFound(x);
        due("add(0, 0)", x.add(0, 0), -2);
        draftIsEmpty(x);
    }
}
