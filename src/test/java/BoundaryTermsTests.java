/**
 * The boundary cases that the document names before its promises and under 'Terms'. Each test is
 * listed with the promises that use the term and with the sentence.
 */
public final class BoundaryTermsTests extends BoundaryTest {
    public static void main(String[] args) {
        testCallsAndPlaces();
        testReads();
        testBins();
        testWriting();
        testQueries();
        endTests();
    }

    private static void testCallsAndPlaces() {
        test("Promises 1 to 15", "An object is used for at most 512 calls after it has been made",
                BoundaryTermsTests::the512thCallAnswers);
        test("Promises 1 to 15", "An object is used for at most 512 calls after it has been made",
                BoundaryTermsTests::manyStoresWithin512Calls);
        test("Promises 5, 11", "REFERENCES 0 and 1 have PLACES 0 .. 4095.",
                BoundaryTermsTests::theFirstAndLastPlaceOfBothReferences);
        test("Promises 5, 11", "REFERENCES 0 and 1 have PLACES 0 .. 4095.",
                BoundaryTermsTests::noOtherReferencesAndPlaces);
    }

    private static void testReads() {
        test("Promises 2, 5, 14", "A READ has a reference, a POSITION (a place), one to three OPS",
                BoundaryTermsTests::oneToThreeOps);
        test("Promises 3, 5, 15", "0 to 24 BASES (each 0 .. 15)",
                BoundaryTermsTests::noneTo24Bases);
        test("Promises 3, 5, 15", "0 to 24 BASES (each 0 .. 15)",
                BoundaryTermsTests::theLeastAndTheGreatestBase);
        test("Promises 2, 14", "An op has a KIND (0, 1, 2, 3) and a LENGTH 1 .. 63.",
                BoundaryTermsTests::theLeastAndTheGreatestOps);
        test("Promise 5", "The SPAN of a read is the sum of the lengths of its ops of the kinds 0, 2 and 3",
                BoundaryTermsTests::theLeastAndTheGreatestSpan);
        test("Promise 5", "the WIDTH that of the kinds 0 and 1; the width is the number of its bases",
                BoundaryTermsTests::theLeastAndTheGreatestWidth);
        test("Promise 5", "and the span is 1 or more.",
                BoundaryTermsTests::aSpanOf0);
        test("Promises 5, 13", "Its END is its position + its span, and is 4096 or less",
                BoundaryTermsTests::theGreatestEnd);
        test("Promise 11", "it covers the places from the position to before the end.",
                BoundaryTermsTests::theFirstAndLastPlaceThatIsCovered);
        test("Promise 11", "A REGION is a reference and the places from beg to before end, at least one",
                BoundaryTermsTests::theSmallestRegion);
        test("Promise 11", "a read OVERLAPS it when both have the reference and some place in common.",
                BoundaryTermsTests::onePlaceInCommon);
        test("Promise 11", "a read OVERLAPS it when both have the reference and some place in common.",
                BoundaryTermsTests::theSamePlacesOfTheOtherReference);
        test("Promise 5", "Reads have numbers 0, 1, .. in the order in which they are added",
                BoundaryTermsTests::numbersFrom0);
        test("Promise 5", "which is by reference, then by position",
                BoundaryTermsTests::theOrderAtItsEdges);
        test("Promise 5", "at most 24 are there.",
                BoundaryTermsTests::atMost24);
    }

    private static void testBins() {
        test("Promises 6, 13", "bin 0 is all places",
                BoundaryTermsTests::readsThatOnlyBin0Has);
        test("Promises 6, 13", "bin 1 + i (i is 0 .. 7) those from 512 * i to before 512 * (i + 1)",
                BoundaryTermsTests::firstAndLastPlacesOfWideBins);
        test("Promises 6, 13", "bin 9 + i (i is 0 .. 63) those from 64 * i to before 64 * (i + 1).",
                BoundaryTermsTests::firstAndLastPlacesOfNarrowBins);
        test("Promises 6, 13",
                "THE BIN of a read is the one with the greatest number that has all places that it covers.",
                BoundaryTermsTests::onePlaceMoreThanABinHas);
    }

    private static void testWriting() {
        test("Promise 6", "A read is written as a row of bytes: S, the number of the bytes that follow",
                BoundaryTermsTests::theShortestAndTheLongestRow);
        test("Promise 6", "its position in two bytes, the lower one first",
                BoundaryTermsTests::positionsWhereTheLowerByteIsFull);
        test("Promise 6", "for each op 4 * length + kind",
                BoundaryTermsTests::theLeastAndTheGreatestOpByte);
        test("Promise 6", "(0 in place of a second one that is not there)",
                BoundaryTermsTests::aSecondBaseThatIsNotThere);
        test("Promise 6", "It is cut into pieces of 40 bytes (the last one may be shorter",
                BoundaryTermsTests::streamsAroundWholePieces);
        test("Promise 6", "It is cut into pieces of 40 bytes (the last one may be shorter",
                BoundaryTermsTests::aRowThatIsCut);
        test("Promise 6", "there are none when there are no reads",
                BoundaryTermsTests::noPieces);
        test("Promise 6", "behind these comes one block with an empty piece.",
                BoundaryTermsTests::oneEmptyPieceBehindAFullOne);
        test("Promise 6", "the number of bytes of the piece in two bytes, the lower one first, "
                + "and the same two bytes with all bits turned",
                BoundaryTermsTests::theShortestAndTheLongestPiece);
        test("Promise 6", "The sum of bytes: c is -1 at first",
                BoundaryTermsTests::theSumOfNoBytes);
        test("Promise 6", "its SUM in four bytes, the lowest first.",
                BoundaryTermsTests::aSumWithEachByteAnother);
        test("Promise 13", "+ the place of that byte in the piece (from 0).",
                BoundaryTermsTests::offsetsAtTheEdgesOfAPiece);
        test("Promises 8, 10, 11",
                "One bit of the disk may be turned; the block in which it is, is damaged then.",
                BoundaryTermsTests::theFirstAndLastByteOfEachBlock);
    }

    private static void testQueries() {
        test("Promises 11, 12", "the reads of its reference whose bin has a place in common with the region",
                BoundaryTermsTests::regionsAtTheEdgesOfNarrowBins);
        test("Promises 11, 12", "the reads of its reference whose bin has a place in common with the region",
                BoundaryTermsTests::regionsAtTheEdgesOfWideBins);
        test("Promises 11, 12", "the reads of its reference whose bin has a place in common with the region",
                BoundaryTermsTests::regionsAtTheEdgesOfBin0);
        test("Promises 11, 12",
                "the first read (with this reference) whose end is more than 64 * (beg / 64, cut)",
                BoundaryTermsTests::endsAround64Times);
        test("Promises 11, 12",
                "the first read (with this reference) whose end is more than 64 * (beg / 64, cut)",
                BoundaryTermsTests::begsAround64Times);
        test("Promises 11, 12",
                "the first read (with this reference) whose end is more than 64 * (beg / 64, cut)",
                BoundaryTermsTests::aLongReadOfTheOtherReference);
        test("Promises 11, 12", "whose number is not less than that of the first read",
                BoundaryTermsTests::shorterReadsBeforeAndBehindTheFirst);
        test("Promises 11, 12", "none, if there is no such read.",
                BoundaryTermsTests::noSuchRead);
        test("Promises 11, 13",
                "The FINDING is those of them that overlap the region, in the order of their numbers.",
                BoundaryTermsTests::theOrderOfTheFinding);
    }

    private static void the512thCallAnswers() {
        BinnedReads x = new BinnedReads();
        due("call 1", x.op(3, 5), true);
        due("call 2", x.add(0, 7), 0);
        due("call 3", x.finish(), 30);
        for (int call = 4; call < 512; call++) {
            due("call " + call, x.query(0, 0, 4096), 1);
        }
        due("call 512", x.found(0, 1), 7);
    }

    private static void manyStoresWithin512Calls() {
        BinnedReads x = new BinnedReads();
        for (int store = 0; store < 102; store++) {
            due("op", x.op(3, 1 + store % 63), true);
            due("add", x.add(store % 2, store), 0);
            due("finish", x.finish(), 30);
            due("query", x.query(store % 2, store, store + 1), 1);
            x.clear();
        }
        due("call 511", x.finish(), 11);
        due("call 512", x.check(), 0);
    }

    private static void theFirstAndLastPlaceOfBothReferences() {
        BinnedReads x = new BinnedReads();
        due("add(0, 0)", putSpan(x, 0, 0, 1), 0);
        due("add(0, 4095)", putSpan(x, 0, 4095, 1), 1);
        due("add(1, 0)", putSpan(x, 1, 0, 1), 2);
        due("add(1, 4095)", putSpan(x, 1, 4095, 1), 3);
        x.finish();
        for (int reference = 0; reference <= 1; reference++) {
            queryIs(x, reference, 0, 1, 1, 1);
            due("position", x.found(0, 1), 0);
            queryIs(x, reference, 4095, 4096, 1, 1);
            due("position", x.found(0, 1), 4095);
        }
    }

    private static void noOtherReferencesAndPlaces() {
        BinnedReads x = new BinnedReads();
        x.op(3, 1);
        due("add(-1, 0)", x.add(-1, 0), -3);
        due("add(2, 0)", x.add(2, 0), -3);
        due("add(0, -1)", x.add(0, -1), -3);
        due("add(0, 4096)", x.add(0, 4096), -3);
        x.finish();
        due("query(-1, 0, 1)", x.query(-1, 0, 1), -1);
        due("query(2, 0, 1)", x.query(2, 0, 1), -1);
        due("query(0, -1, 1)", x.query(0, -1, 1), -1);
        due("query(0, 4095, 4097)", x.query(0, 4095, 4097), -1);
    }

    private static void oneToThreeOps() {
        BinnedReads x = new BinnedReads();
        due("no op", x.add(0, 0), -2);
        for (int ops = 1; ops <= 3; ops++) {
            for (int i = 0; i < ops; i++) {
                due("op", x.op(2, 10 * ops + i), true);
            }
            if (ops == 3) {
                due("a fourth op", x.op(2, 1), false);
            }
            due(ops + " ops", x.add(0, 0), ops - 1);
        }
        x.finish();
        x.query(0, 0, 1);
        for (int ops = 1; ops <= 3; ops++) {
            due("number of ops", x.found(ops - 1, 4), ops);
            due("the last op", x.foundOp(ops - 1, ops - 1), 4 * (11 * ops - 1) + 2);
            due("no op behind", x.foundOp(ops - 1, ops), NONE);
        }
    }

    private static void noneTo24Bases() {
        for (int bases : new int[] {0, 1, 2, 23, 24}) {
            BinnedReads x = new BinnedReads();
            x.op(3, 1);
            if (bases > 0) {
                x.op(1, bases);
            }
            appendBases(x, bases);
            due("add with " + bases + " bases", x.add(0, 0), 0);
            x.finish();
            x.query(0, 0, 1);
            due("number of bases", x.found(0, 5), bases);
            due("the last base", x.foundBase(0, bases - 1), bases == 0 ? NONE : 15 - (bases - 1) % 16);
            due("no base behind", x.foundBase(0, bases), NONE);
        }
    }

    private static void theLeastAndTheGreatestBase() {
        BinnedReads x = new BinnedReads();
        x.op(0, 4);
        due("base(-1)", x.base(-1), false);
        due("base(0)", x.base(0), true);
        due("base(15)", x.base(15), true);
        due("base(16)", x.base(16), false);
        due("base(15)", x.base(15), true);
        due("base(0)", x.base(0), true);
        due("add", x.add(0, 0), 0);
        x.finish();
        x.query(0, 0, 1);
        int[] bases = {0, 15, 15, 0};
        for (int i = 0; i < 4; i++) {
            due("base " + i, x.foundBase(0, i), bases[i]);
        }
    }

    private static void theLeastAndTheGreatestOps() {
        for (int kind = 0; kind <= 3; kind++) {
            BinnedReads x = new BinnedReads();
            due("op(" + kind + ", 0)", x.op(kind, 0), false);
            due("op(" + kind + ", 64)", x.op(kind, 64), false);
            due("op(" + kind + ", 1)", x.op(kind, 1), true);
            due("op(" + kind + ", 63)", x.op(kind, 63), true);
        }
        due("op(-1, 1)", new BinnedReads().op(-1, 1), false);
        due("op(4, 1)", new BinnedReads().op(4, 1), false);
    }

    private static void theLeastAndTheGreatestSpan() {
        BinnedReads x = new BinnedReads();
        for (int kind : new int[] {0, 2, 3}) {
            x.op(kind, 1);
            x.op(1, 3);
            appendBases(x, kind == 0 ? 4 : 3);
            x.add(0, 100);
        }
        x.op(3, 63);
        x.op(2, 63);
        x.op(3, 63);
        x.add(0, 100);
        x.op(0, 24);
        x.op(2, 63);
        x.op(3, 63);
        appendBases(x, 24);
        due("the fifth read", x.add(0, 100), 4);
        x.finish();
        due("all five", x.query(0, 100, 101), 5);
        for (int k = 0; k < 3; k++) {
            due("a span of 1", x.found(k, 3), 101);
        }
        due("a span of 189", x.found(3, 3), 289);
        due("a span of all three kinds", x.found(4, 3), 250);
    }

    private static void theLeastAndTheGreatestWidth() {
        BinnedReads x = new BinnedReads();
        x.op(2, 5);
        x.op(3, 5);
        due("a width of 0", x.add(0, 0), 0);
        x.op(2, 5);
        x.base(1);
        due("a width of 0, a base", x.add(0, 0), -2);
        x.scrap();
        x.op(0, 12);
        x.op(1, 12);
        appendBases(x, 23);
        due("a width of 24, 23 bases", x.add(0, 0), -2);
        x.base(0);
        due("a width of 24, 24 bases", x.add(0, 0), 1);
        x.op(0, 24);
        x.op(1, 1);
        appendBases(x, 24);
        due("a width of 25, 24 bases", x.add(0, 0), -2);
    }

    private static void aSpanOf0() {
        BinnedReads x = new BinnedReads();
        x.op(1, 1);
        x.op(1, 1);
        appendBases(x, 2);
        due("a span of 0", x.add(0, 0), -2);
        x.op(2, 1);
        due("a span of 1", x.add(0, 0), 0);
    }

    private static void theGreatestEnd() {
        BinnedReads x = new BinnedReads();
        x.op(3, 63);
        due("an end of 4097", x.add(0, 4034), -3);
        due("an end of 4096", x.add(0, 4033), 0);
        x.op(2, 1);
        due("an end of 4096", x.add(0, 4095), 1);
        x.finish();
        due("the last place", x.query(0, 4095, 4096), 2);
        due("end", x.found(0, 3), 4096);
        due("end", x.found(1, 3), 4096);
    }

    private static void theFirstAndLastPlaceThatIsCovered() {
        BinnedReads x = storeOf(0, 100, 7);
        due("before the position", x.query(0, 99, 100), 0);
        due("the position", x.query(0, 100, 101), 1);
        due("before the end", x.query(0, 106, 107), 1);
        due("the end", x.query(0, 107, 108), 0);
    }

    private static void theSmallestRegion() {
        BinnedReads x = storeOf(0, 100, 7);
        due("no place", x.query(0, 103, 103), -1);
        due("one place", x.query(0, 103, 104), 1);
        due("less than no place", x.query(0, 104, 103), -1);
    }

    private static void onePlaceInCommon() {
        BinnedReads x = storeOf(1, 100, 7);
        due("up to the position", x.query(1, 0, 100), 0);
        due("up to its first place", x.query(1, 0, 101), 1);
        due("from its last place", x.query(1, 106, 4096), 1);
        due("from its end", x.query(1, 107, 4096), 0);
        due("inside it", x.query(1, 102, 104), 1);
        due("around it", x.query(1, 50, 150), 1);
    }

    private static void theSamePlacesOfTheOtherReference() {
        BinnedReads x = storeOf(0, 100, 7);
        queryIs(x, 1, 100, 107, 0, 0);
        BinnedReads y = storeOf(1, 100, 7);
        queryIs(y, 0, 100, 107, 0, 0);
        queryIs(y, 1, 100, 107, 1, 1);
    }

    private static void numbersFrom0() {
        BinnedReads x = new BinnedReads();
        due("the first", putSpan(x, 1, 4095, 1), 0);
        due("the second", putSpan(x, 1, 4095, 1), 1);
        due("a refused one", putSpan(x, 0, 0, 1), -4);
        due("the third", x.add(1, 4095), 2);
    }

    private static void theOrderAtItsEdges() {
        BinnedReads x = new BinnedReads();
        putSpan(x, 0, 10, 50);
        x.op(3, 1);
        due("one place before", x.add(0, 9), -4);
        due("the same place, a smaller end", x.add(0, 10), 1);
        putSpan(x, 0, 4095, 1);
        due("the first place of the next reference", putSpan(x, 1, 0, 1), 3);
        x.op(3, 1);
        due("the last place of the reference before", x.add(0, 4095), -4);
    }

    private static void atMost24() {
        BinnedReads x = new BinnedReads();
        for (int i = 0; i < 24; i++) {
            due("read " + i, putSpan(x, 0, i, 1), i);
        }
        due("a 25th", putSpan(x, 0, 24, 1), -1);
        x.finish();
        due("they are 24", x.check(), 24);
        due("the finding may have 24", x.query(0, 0, 24), 24);
        due("the last", x.found(23, 1), 23);
        due("none behind", x.found(24, 1), NONE);
    }

    private static void binIs(int position, int span, int bin) {
        BinnedReads x = storeOf(0, position, span);
        x.query(0, position, position + span);
        due("the bin of " + span + " places from " + position, x.found(0, 2), bin);
        due("the bin of " + span + " places from " + position + " on the disk", x.byteAt(11), bin);
    }

    private static void readsThatOnlyBin0Has() {
        for (int i = 1; i <= 7; i++) {
            binIs(512 * i - 1, 2, 0);
            binIs(512 * i - 1, 189, 0);
            binIs(512 * i - 188, 189, 0);
        }
    }

    private static void firstAndLastPlacesOfWideBins() {
        for (int i = 0; i <= 7; i++) {
            binIs(512 * i, 65, 1 + i);
            binIs(512 * i, 189, 1 + i);
            binIs(512 * (i + 1) - 65, 65, 1 + i);
            binIs(512 * (i + 1) - 189, 189, 1 + i);
        }
    }

    private static void firstAndLastPlacesOfNarrowBins() {
        for (int i = 0; i <= 63; i++) {
            binIs(64 * i, 1, 9 + i);
            binIs(64 * i + 63, 1, 9 + i);
            binIs(64 * i, 64, 9 + i);
        }
    }

    private static void onePlaceMoreThanABinHas() {
        for (int i = 0; i <= 62; i++) {
            int wider = i % 8 == 7 ? 0 : 1 + i / 8;
            binIs(64 * i + 63, 2, wider);
            binIs(64 * i, 65, wider);
        }
        for (int i = 0; i <= 6; i++) {
            binIs(512 * i + 323, 189, 1 + i);
            binIs(512 * i + 324, 189, 0);
        }
    }

    private static void theShortestAndTheLongestRow() {
        BinnedReads x = new BinnedReads();
        putSpan(x, 0, 0, 1);
        x.op(0, 20);
        x.op(3, 63);
        x.op(1, 4);
        appendBases(x, 24);
        x.add(1, 0);
        due("size", x.finish(), 8 + 22 + 22);
        bytesAre(x, 7, 7, 0, 0, 0, 9, 1, 0, 7);
        bytesAre(x, 15, 21, 1, 0, 0, 1, 3, 24, 80, 255, 17);
        bytesAre(x, 25, 254, 220, 186, 152, 118, 84, 50, 16, 254, 220, 186, 152);
    }

    private static void positionsWhereTheLowerByteIsFull() {
        int[][] cases = {{0, 0, 0}, {255, 255, 0}, {256, 0, 1}, {511, 255, 1}, {3840, 0, 15}, {4095, 255, 15}};
        for (int[] one : cases) {
            BinnedReads x = storeOf(0, one[0], 1);
            bytesAre(x, 9, one[1], one[2]);
            x.query(0, one[0], one[0] + 1);
            due("position", x.found(0, 1), one[0]);
        }
    }

    private static void theLeastAndTheGreatestOpByte() {
        BinnedReads x = new BinnedReads();
        x.op(0, 1);
        x.op(3, 63);
        x.op(2, 63);
        x.base(0);
        x.add(0, 0);
        x.finish();
        bytesAre(x, 14, 4, 255, 254);
    }

    private static void aSecondBaseThatIsNotThere() {
        BinnedReads x = new BinnedReads();
        putBases(x, 0, 0, 2);
        putBases(x, 0, 0, 1);
        putBases(x, 0, 0, 3);
        x.finish();
        bytesAre(x, 15, 16 * 15 + 14);
        bytesAre(x, 16 + 8, 16 * 15);
        bytesAre(x, 25 + 8, 16 * 15 + 14, 16 * 13);
        BinnedReads y = new BinnedReads();
        putBases(y, 0, 0, 23);
        due("12 bytes for 23 bases", y.finish(), 20 + 22);
        bytesAre(y, 7 + 19, 16 * 9);
    }

    /** One piece or two are full at 40 and 80 bytes; the lengths beside these differ by one. */
    private static void streamsAroundWholePieces() {
        sizeIs(39, 39 + 22, 22, 17);
        sizeIs(40, 40 + 22, 22, 18);
        sizeIs(41, 41 + 33, 22, 19);
        sizeIs(79, 79 + 33, 22, 22, 22, 13);
        sizeIs(80, 80 + 33, 22, 22, 22, 14);
        sizeIs(81, 81 + 44, 22, 22, 22, 15);
    }

    private static void sizeIs(int stream, int size, int... rows) {
        BinnedReads x = new BinnedReads();
        for (int row : rows) {
            putRow(x, row);
        }
        due("a stream of " + stream + " bytes", x.finish(), size);
        for (int place = 0, block = 0; place < stream; place += 40, block++) {
            due("the piece from " + place, x.byteAt(51 * block + 3), Math.min(40, stream - place));
        }
        due("the empty piece", x.byteAt(size - 11 + 3), 0);
        due("no byte behind", x.byteAt(size), NONE);
        due("all are read", x.check(), rows.length);
    }

    /** Adds a read of so many bytes, 11 .. 22, at the first place. */
    private static void putRow(BinnedReads x, int bytes) {
        x.op(3, 1);
        x.op(3, 1);
        int bases = 2 * (bytes - 10);
        x.op(1, bases);
        appendBases(x, bases);
        x.add(0, 0);
    }

    private static void aRowThatIsCut() {
        BinnedReads x = new BinnedReads();
        putRow(x, 17);
        putRow(x, 22);
        putSpan(x, 1, 513, 65);
        due("size", x.finish(), 48 + 33);
        bytesAre(x, 7 + 39, 8);
        blockIs(x, 51, 1, 1, 2, 2, 2, 0, 255, 11);
        due("it is found", x.query(1, 577, 578), 1);
        foundIs(x, 0, 39, 513, 2, 578, 2, 0);
        due("its last op", x.foundOp(0, 1), 11);
    }

    private static void noPieces() {
        BinnedReads x = new BinnedReads();
        due("size", x.finish(), 11);
        blockIs(x, 0);
        due("no byte behind", x.byteAt(11), NONE);
        BinnedReads y = new BinnedReads();
        y.op(3, 1);
        due("a draft is no read", y.finish(), 11);
    }

    private static void oneEmptyPieceBehindAFullOne() {
        BinnedReads x = storeOfSmall(5);
        due("a full piece", x.byteAt(3), 40);
        blockIs(x, 51);
        due("no byte behind", x.byteAt(62), NONE);
        BinnedReads y = storeOfSmall(4);
        blockIs(y, 43);
        due("no byte behind", y.byteAt(54), NONE);
    }

    private static void theShortestAndTheLongestPiece() {
        BinnedReads x = storeOfSmall(6);
        bytesAre(x, 0, 31, 139, 1, 40, 0, 215, 255);
        bytesAre(x, 51, 31, 139, 1, 8, 0, 247, 255);
        bytesAre(x, 70, 31, 139, 1, 0, 0, 255, 255);
    }

    private static void theSumOfNoBytes() {
        BinnedReads x = new BinnedReads();
        x.finish();
        bytesAre(x, 7, 0, 0, 0, 0);
    }

    private static void aSumWithEachByteAnother() {
        BinnedReads x = storeOf(0, 0, 1);
        bytesAre(x, 7, 7, 0, 0, 0, 9, 1, 0, 7);
        bytesAre(x, 15, 110, 102, 73, 141);
    }

    private static void offsetsAtTheEdgesOfAPiece() {
        BinnedReads x = new BinnedReads();
        putRow(x, 17);
        putRow(x, 22);
        putSpan(x, 0, 0, 1);
        x.finish();
        due("all", x.query(0, 0, 1), 3);
        due("the first place", x.found(0, 0), 0);
        due("in the middle", x.found(1, 0), 17);
        due("the last place of a piece", x.found(2, 0), 39);
        BinnedReads y = storeOfSmall(11);
        due("all", y.query(0, 0, 4096), 11);
        due("the last of the first block", y.found(4, 0), 32);
        due("the first place of the second block", y.found(5, 0), 64 * 51);
        due("the last of the second block", y.found(9, 0), 64 * 51 + 32);
        due("the first place of the third block", y.found(10, 0), 64 * 102);
    }

    private static void theFirstAndLastByteOfEachBlock() {
        // Reads 0 to 4 are in the block from 0, read 5 in the one from 51; the one from 70 is empty.
        int[][] bytes = {{0, 0}, {50, 0}, {51, 1}, {69, 1}, {70, 2}, {80, 2}};
        for (int[] one : bytes) {
            for (int bit = 0; bit <= 7; bit++) {
                BinnedReads x = storeOfSmall(6);
                due("turn(" + one[0] + ", " + bit + ")", x.turn(one[0], bit), true);
                due("check()", x.check(), -2);
                due("a read of the first block", x.query(0, 0, 1), one[1] == 0 ? -2 : 1);
                due("the last read of the first block", x.query(0, 256, 257), one[1] == 0 ? -2 : 1);
                due("the read of the second block", x.query(0, 320, 321), one[1] == 1 ? -2 : 1);
                due("all reads", x.query(0, 0, 4096), one[1] == 2 ? 6 : -2);
            }
        }
    }

    /** A long read reaches the cells beside the bin, so that only the bin keeps the small one out. */
    private static void regionsAtTheEdgesOfNarrowBins() {
        for (int i = 0; i <= 63; i++) {
            int beg = 64 * i;
            BinnedReads x = new BinnedReads();
            int from = Math.max(0, beg - 100);
            putSpan(x, 0, from, Math.min(189, 4096 - from));
            putSpan(x, 0, beg, 1);
            x.finish();
            queryIs(x, 0, beg, beg + 1, 2, 2);
            queryIs(x, 0, beg + 63, beg + 64, 2, 1);
            if (i > 0) {
                queryIs(x, 0, beg - 1, beg, 1, 1);
                queryIs(x, 0, beg - 1, beg + 1, 2, 2);
            }
            if (i < 63) {
                queryIs(x, 0, beg + 64, beg + 65, 1, 1);
                queryIs(x, 0, beg + 63, beg + 65, 2, 1);
            }
        }
    }

    private static void regionsAtTheEdgesOfWideBins() {
        for (int i = 0; i <= 6; i++) {
            int beg = 512 * i;
            BinnedReads x = new BinnedReads();
            putSpan(x, 0, beg + 412, 189);
            putSpan(x, 0, beg + 447, 65);
            x.finish();
            queryIs(x, 0, beg, beg + 1, 2, 0);
            queryIs(x, 0, beg + 511, beg + 512, 2, 2);
            queryIs(x, 0, beg + 512, beg + 513, 1, 1);
            if (i > 0) {
                queryIs(x, 0, beg - 1, beg, 1, 0);
            }
        }
        BinnedReads last = storeOf(0, 4031, 65);
        queryIs(last, 0, 3583, 3584, 0, 0);
        queryIs(last, 0, 3584, 3585, 1, 0);
        queryIs(last, 0, 4095, 4096, 1, 1);
    }

    private static void regionsAtTheEdgesOfBin0() {
        BinnedReads x = storeOf(0, 3583, 2);
        queryIs(x, 0, 0, 1, 1, 0);
        queryIs(x, 0, 3582, 3583, 1, 0);
        BinnedReads y = storeOf(0, 3583, 189);
        queryIs(y, 0, 3771, 3772, 1, 1);
        queryIs(y, 0, 3772, 3773, 1, 0);
    }

    private static void endsAround64Times() {
        for (int times = 128; times <= 4032; times += 64) {
            BinnedReads less = storeOf(0, times - 66, 65);
            queryIs(less, 0, times, times + 1, 0, 0);
            BinnedReads equal = storeOf(0, times - 66, 66);
            queryIs(equal, 0, times, times + 1, 0, 0);
            BinnedReads more = storeOf(0, times - 66, 67);
            queryIs(more, 0, times, times + 1, 1, 1);
        }
    }

    private static void begsAround64Times() {
        // It ends at 129, in the cell from 128: all regions that begin in that cell look at it.
        BinnedReads x = storeOf(0, 100, 29);
        queryIs(x, 0, 127, 128, 1, 1);
        queryIs(x, 0, 128, 129, 1, 1);
        queryIs(x, 0, 129, 130, 1, 0);
        queryIs(x, 0, 191, 192, 1, 0);
        queryIs(x, 0, 192, 193, 0, 0);
        BinnedReads y = storeOf(0, 0, 1);
        queryIs(y, 0, 0, 1, 1, 1);
        queryIs(y, 0, 63, 64, 1, 0);
    }

    private static void aLongReadOfTheOtherReference() {
        BinnedReads x = new BinnedReads();
        putSpan(x, 0, 60, 189);
        putSpan(x, 1, 60, 10);
        x.finish();
        queryIs(x, 1, 128, 129, 0, 0);
        queryIs(x, 1, 69, 70, 1, 1);
        queryIs(x, 0, 128, 129, 1, 1);
    }

    private static void shorterReadsBeforeAndBehindTheFirst() {
        BinnedReads x = new BinnedReads();
        putSpan(x, 0, 60, 68);
        putSpan(x, 0, 60, 69);
        putSpan(x, 0, 60, 68);
        putSpan(x, 0, 63, 2);
        x.finish();
        queryIs(x, 0, 128, 129, 3, 1);
        due("end", x.found(0, 3), 129);
        queryIs(x, 0, 127, 128, 4, 3);
    }

    private static void noSuchRead() {
        BinnedReads x = storeOf(0, 60, 68);
        queryIs(x, 0, 127, 128, 1, 1);
        queryIs(x, 0, 128, 129, 0, 0);
        queryIs(x, 1, 0, 4096, 0, 0);
        BinnedReads empty = new BinnedReads();
        empty.finish();
        queryIs(empty, 0, 0, 4096, 0, 0);
        queryIs(empty, 1, 4095, 4096, 0, 0);
    }

    private static void theOrderOfTheFinding() {
        BinnedReads x = new BinnedReads();
        putSpan(x, 0, 440, 70);
        putSpan(x, 0, 500, 5);
        putSpan(x, 0, 500, 100);
        putSpan(x, 0, 500, 2);
        putSpan(x, 0, 504, 3);
        x.finish();
        queryIs(x, 0, 504, 505, 5, 4);
        int[] ends = {510, 505, 600, 507};
        int[] bins = {1, 16, 0, 16};
        for (int k = 0; k < 4; k++) {
            due("end of read " + k, x.found(k, 3), ends[k]);
            due("bin of read " + k, x.found(k, 2), bins[k]);
        }
        due("none behind", x.found(4, 3), NONE);
    }
}
