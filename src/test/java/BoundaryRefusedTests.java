import java.util.ArrayList;
import java.util.List;

/**
 * "A call that answers less than 0, or false, changes nothing.": for each way in which a call can
 * be refused, two objects go through the same calls, but one of them is asked the refused call
 * too; whatever can be seen of the two is the same then.
 */
public final class BoundaryRefusedTests extends BoundaryTest {
    private static final String SENTENCE = "A call that answers less than 0, or false, changes nothing.";

    private interface Maker {
        BinnedReads make();
    }

    private interface Call {
        int ask(BinnedReads x);
    }

    public static void main(String[] args) {
        testOpAndBase();
        testAdd();
        testFinishAndTurn();
        testByteAtAndCheck();
        testQuery();
        testFound();
        endTests();
    }

    private static void testOpAndBase() {
        for (Maker maker : new Maker[] {BoundaryRefusedTests::draftOfARead, BoundaryRefusedTests::damaged}) {
            refused("Promise 2: a kind too small", maker, x -> asNumber(x.op(-1, 1)), 0);
            refused("Promise 2: a kind too large", maker, x -> asNumber(x.op(4, 1)), 0);
            refused("Promise 2: a length too small", maker, x -> asNumber(x.op(0, 0)), 0);
            refused("Promise 2: a length too large", maker, x -> asNumber(x.op(0, 64)), 0);
            refused("Promise 3: a base too small", maker, x -> asNumber(x.base(-1)), 0);
            refused("Promise 3: a base too large", maker, x -> asNumber(x.base(16)), 0);
        }
        refused("Promise 2: it has three", BoundaryRefusedTests::fullDraft, x -> asNumber(x.op(2, 9)), 0);
        refused("Promise 3: it has 24", BoundaryRefusedTests::fullDraft, x -> asNumber(x.base(9)), 0);
    }

    private static void testAdd() {
        refused("Promise 5: the disk is written", BoundaryRefusedTests::written, x -> x.add(1, 4000), -1);
        refused("Promise 5: 24 are there", BoundaryRefusedTests::full, x -> x.add(1, 4000), -1);
        refused("Promise 5: no op", BoundaryRefusedTests::draftWithoutAnOp, x -> x.add(1, 4000), -2);
        refused("Promise 5: a span of 0", BoundaryRefusedTests::draftWithoutASpan, x -> x.add(1, 4000), -2);
        refused("Promise 5: a base too few", BoundaryRefusedTests::draftWithABaseTooFew, x -> x.add(1, 4000), -2);
        refused("Promise 5: a base too many", BoundaryRefusedTests::draftWithABaseTooMany, x -> x.add(1, 4000), -2);
        Maker good = BoundaryRefusedTests::draftOfARead;
        refused("Promise 5: a reference too small", good, x -> x.add(-1, 4000), -3);
        refused("Promise 5: a reference too large", good, x -> x.add(2, 4000), -3);
        refused("Promise 5: a position too small", good, x -> x.add(1, -1), -3);
        refused("Promise 5: a position too large", good, x -> x.add(1, 4096), -3);
        refused("Promise 5: an end too large", good, x -> x.add(1, 4095), -3);
        refused("Promise 5: a position before the last one", good, x -> x.add(0, 63), -4);
        refused("Promise 5: a reference before the last one", BoundaryRefusedTests::draftBehindReference1,
                x -> x.add(0, 4000), -4);
    }

    private static void testFinishAndTurn() {
        for (Maker maker : new Maker[] {BoundaryRefusedTests::written, BoundaryRefusedTests::damaged}) {
            refused("Promise 6: it is written", maker, BinnedReads::finish, -1);
            refused("Promise 8: a byte too small", maker, x -> asNumber(x.turn(-1, 0)), 0);
            refused("Promise 8: a byte too large", maker, x -> asNumber(x.turn(89, 0)), 0);
            refused("Promise 8: a bit too small", maker, x -> asNumber(x.turn(60, -1)), 0);
            refused("Promise 8: a bit too large", maker, x -> asNumber(x.turn(60, 8)), 0);
        }
        refused("Promise 8: another bit is turned", BoundaryRefusedTests::damaged, x -> asNumber(x.turn(60, 1)), 0);
        refused("Promise 8: nothing is written", BoundaryRefusedTests::draftOfARead, x -> asNumber(x.turn(0, 0)), 0);
    }

    private static void testByteAtAndCheck() {
        refused("Promise 9: nothing is written", BoundaryRefusedTests::draftOfARead, x -> x.byteAt(0), -1);
        refused("Promise 9: a byte too small", BoundaryRefusedTests::damaged, x -> x.byteAt(-1), -1);
        refused("Promise 9: a byte too large", BoundaryRefusedTests::damaged, x -> x.byteAt(89), -1);
        refused("Promise 10: nothing is written", BoundaryRefusedTests::draftOfARead, BinnedReads::check, -1);
        refused("Promise 10: a block is damaged", BoundaryRefusedTests::damaged, BinnedReads::check, -2);
    }

    private static void testQuery() {
        refused("Promise 11: nothing is written", BoundaryRefusedTests::draftOfARead, x -> x.query(0, 0, 1), -1);
        for (Maker maker : new Maker[] {BoundaryRefusedTests::written, BoundaryRefusedTests::damaged}) {
            refused("Promise 11: a reference too small", maker, x -> x.query(-1, 0, 1), -1);
            refused("Promise 11: a reference too large", maker, x -> x.query(2, 0, 1), -1);
            refused("Promise 11: beg is less than 0", maker, x -> x.query(0, -1, 1), -1);
            refused("Promise 11: end is more than 4096", maker, x -> x.query(0, 0, 4097), -1);
            refused("Promise 11: beg is not less than end", maker, x -> x.query(0, 64, 64), -1);
        }
        refused("Promise 11: all blocks, one is damaged", BoundaryRefusedTests::damaged, x -> x.query(0, 0, 4096), -2);
        refused("Promise 11: the damaged block", BoundaryRefusedTests::damaged, x -> x.query(0, 320, 321), -2);
    }

    private static void testFound() {
        for (Maker maker : new Maker[] {BoundaryRefusedTests::written, BoundaryRefusedTests::damaged}) {
            refused("Promise 13: a read too small", maker, x -> x.found(-1, 0), -1);
            refused("Promise 13: a read too large", maker, x -> x.found(2, 0), -1);
            refused("Promise 13: which is too small", maker, x -> x.found(0, -1), -1);
            refused("Promise 13: which is too large", maker, x -> x.found(0, 6), -1);
            refused("Promise 14: an op too small", maker, x -> x.foundOp(0, -1), -1);
            refused("Promise 14: an op too large", maker, x -> x.foundOp(0, 3), -1);
            refused("Promise 15: a base too small", maker, x -> x.foundBase(1, -1), -1);
            refused("Promise 15: a base too large", maker, x -> x.foundBase(1, 24), -1);
        }
        refused("Promise 13: nothing is found", BoundaryRefusedTests::draftOfARead, x -> x.found(0, 0), -1);
        refused("Promise 14: nothing is found", BoundaryRefusedTests::draftOfARead, x -> x.foundOp(0, 0), -1);
        refused("Promise 15: nothing is found", BoundaryRefusedTests::draftOfARead, x -> x.foundBase(0, 0), -1);
    }

    private static int asNumber(boolean answer) {
        return answer ? 1 : 0;
    }

    private static void refused(String promise, Maker maker, Call call, int answer) {
        test(promise, SENTENCE, () -> {
            BinnedReads asked = maker.make();
            BinnedReads left = maker.make();
            due("the refused call", call.ask(asked), answer);
            due("the refused call, again", call.ask(asked), answer);
            List<Integer> seen = allThatIsSeen(asked);
            List<Integer> wanted = allThatIsSeen(left);
            for (int i = 0; i < wanted.size(); i++) {
                due("look " + i + " after it", seen.get(i), wanted.get(i));
            }
        });
    }

    /** What the calls that change nothing answer first; then what the draft, the disk and all are worth. */
    private static List<Integer> allThatIsSeen(BinnedReads x) {
        List<Integer> seen = new ArrayList<>();
        lookAtTheFinding(x, seen);
        lookAtTheDisk(x, seen);
        seen.add(x.add(1, 4000));
        seen.add(x.finish());
        lookAtTheDisk(x, seen);
        seen.add(x.query(1, 0, 4096));
        lookAtTheFinding(x, seen);
        // What is left of the draft tells how many ops and bases it has.
        for (int i = 0; i < 4; i++) {
            seen.add(asNumber(x.op(3, 1)));
        }
        for (int i = 0; i < 25; i++) {
            seen.add(asNumber(x.base(1)));
        }
        seen.add(asNumber(x.turn(60, 0)));
        seen.add(x.check());
        seen.add(x.query(0, 0, 4096));
        return seen;
    }

    private static void lookAtTheFinding(BinnedReads x, List<Integer> seen) {
        seen.add(x.looked());
        for (int k = 0; k < 3; k++) {
            for (int which = 0; which <= 5; which++) {
                seen.add(x.found(k, which));
            }
            for (int i = 0; i < 3; i++) {
                seen.add(x.foundOp(k, i));
            }
            seen.add(x.foundBase(k, 0));
            seen.add(x.foundBase(k, 23));
        }
    }

    private static void lookAtTheDisk(BinnedReads x, List<Integer> seen) {
        for (int k = 0; k < 90; k++) {
            seen.add(x.byteAt(k));
        }
        seen.add(x.check());
    }

    // The states in which calls are refused

    /** Not written: one read, and the draft of another with a span of 2 and three bases. */
    private static BinnedReads draftOfARead() {
        BinnedReads x = new BinnedReads();
        putSpan(x, 0, 64, 3);
        x.op(0, 2);
        x.op(1, 1);
        appendBases(x, 3);
        return x;
    }

    private static BinnedReads draftBehindReference1() {
        BinnedReads x = new BinnedReads();
        putSpan(x, 1, 64, 3);
        x.op(0, 2);
        appendBases(x, 2);
        return x;
    }

    private static BinnedReads fullDraft() {
        BinnedReads x = new BinnedReads();
        putSpan(x, 0, 64, 3);
        x.op(0, 20);
        x.op(3, 63);
        x.op(1, 4);
        appendBases(x, 24);
        return x;
    }

    private static BinnedReads draftWithoutAnOp() {
        BinnedReads x = new BinnedReads();
        putSpan(x, 0, 64, 3);
        appendBases(x, 2);
        return x;
    }

    private static BinnedReads draftWithoutASpan() {
        BinnedReads x = draftWithoutAnOp();
        x.op(1, 2);
        return x;
    }

    private static BinnedReads draftWithABaseTooFew() {
        BinnedReads x = draftWithoutAnOp();
        x.op(0, 3);
        return x;
    }

    private static BinnedReads draftWithABaseTooMany() {
        BinnedReads x = draftWithoutAnOp();
        x.op(0, 1);
        return x;
    }

    private static BinnedReads full() {
        BinnedReads x = new BinnedReads();
        putSmall(x, 24);
        x.op(0, 2);
        appendBases(x, 2);
        return x;
    }

    /** Written, with a finding of two reads and a draft: 89 bytes, the second block from 51 to 77. */
    private static BinnedReads written() {
        BinnedReads x = new BinnedReads();
        putSpan(x, 0, 0, 189);
        putBases(x, 0, 1, 24);
        putSpan(x, 0, 64, 1);
        putSpan(x, 0, 128, 189);
        putSpan(x, 0, 320, 1);
        due("56 bytes in three blocks", x.finish(), 56 + 33);
        due("two", x.query(0, 2, 3), 2);
        x.op(0, 2);
        appendBases(x, 2);
        return x;
    }

    private static BinnedReads damaged() {
        BinnedReads x = written();
        due("turn(60, 0)", x.turn(60, 0), true);
        return x;
    }
}
