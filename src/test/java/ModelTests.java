import java.io.ByteArrayOutputStream;
import java.util.ArrayList;
import java.util.List;
import java.util.Random;
import java.util.zip.CRC32;

/**
 * Long runs of calls, the same each time, on an object and on a second, slow model that follows
 * the document's words place by place; every answer of the two must be the same.
 */
public final class ModelTests {
    private static final int RUNS = 3000;
    /** What an object answers after so many calls is free. */
    private static final int CALLS = 512;
    /** No step of a run makes more calls than this. */
    private static final int MOST_CALLS_OF_A_STEP = 40;

    private static int wrong = 0;

    public static void main(String[] args) {
        int[] answers = new int[4];
        for (int run = 0; run < RUNS && wrong < 20; run++) {
            playRun(run, answers);
        }
        // Without these the runs would say little: they must reach each kind of answer of a query.
        if (answers[0] < 1000 || answers[1] < 1000 || answers[2] < 1000 || answers[3] < 1000) {
            wrong++;
            System.out.println("the runs reach too few queries of some kind");
        }
        System.out.println(wrong == 0 ? "all answers agree with the model" : "answers differ");
        if (wrong != 0) {
            System.exit(1);
        }
    }

    private static void playRun(int run, int[] answers) {
        Random random = new Random(run);
        Player player = new Player(run, random);
        while (player.calls + MOST_CALLS_OF_A_STEP <= CALLS && wrong < 20) {
            int answer = player.takeStep();
            if (answer != Player.NO_QUERY) {
                answers[answer < 0 ? -answer : answer > 0 ? 3 : 0]++;
            }
        }
        while (player.calls < CALLS) {
            player.compareOne();
        }
    }

    private static final class Player {
        static final int NO_QUERY = -99;
        final int run;
        final Random random;
        final BinnedReads object = new BinnedReads();
        final Model model = new Model();
        final int patience;
        int reference = 0;
        int position = 0;
        int calls = 0;

        Player(int run, Random random) {
            this.run = run;
            this.random = random;
            this.patience = 1 + random.nextInt(24);
        }

        int takeStep() {
            if (model.disk == null && random.nextInt(10) > 0) {
                callWhileWriting();
                return NO_QUERY;
            }
            return callWhileReading();
        }

        void callWhileWriting() {
            int choice = random.nextInt(20);
            if (choice < 12) {
                addGoodRead();
            } else if (choice < 14) {
                op(random.nextInt(7) - 1, random.nextInt(67) - 1);
            } else if (choice < 16) {
                base(random.nextInt(18) - 1);
            } else if (choice == 16) {
                add(random.nextInt(4) - 1, anyPlace());
            } else if (choice == 17) {
                scrap();
            } else if (model.reads.size() >= patience) {
                same("finish()", object.finish(), model.finish());
            }
        }

        void addGoodRead() {
            scrap();
            int ops = 1 + random.nextInt(3);
            int width = 0;
            for (int i = 0; i < ops; i++) {
                int kind = random.nextInt(4);
                int length = kind < 2 ? 1 + random.nextInt(8) : 1 + random.nextInt(63);
                op(kind, length);
                width += kind < 2 ? length : 0;
            }
            for (int i = 0; i < width; i++) {
                base(random.nextInt(16));
            }
            if (random.nextInt(12) == 0) {
                reference = 1;
                position = 0;
            }
            position += random.nextInt(3) * random.nextInt(random.nextBoolean() ? 12 : 300);
            if (position > 4095) {
                position = 3900 + random.nextInt(200);
            }
            add(reference, position);
        }

        int callWhileReading() {
            switch (random.nextInt(14)) {
                case 0:
                    same("finish()", object.finish(), model.finish());
                    break;
                case 1:
                    add(random.nextInt(3), anyPlace());
                    break;
                case 2:
                    if (random.nextInt(20) == 0) {
                        clear();
                    } else {
                        same("looked()", object.looked(), model.looked);
                    }
                    break;
                case 3:
                case 4:
                    turnSome();
                    break;
                case 5:
                    same("check()", object.check(), model.check());
                    break;
                case 6:
                case 7:
                    compareOne();
                    break;
                default:
                    return querySome();
            }
            return NO_QUERY;
        }

        void turnSome() {
            boolean back = model.turned >= 0 && random.nextInt(3) == 0;
            int size = model.disk == null ? 11 : model.disk.length;
            int k = back ? model.turned / 8 : random.nextInt(size + 4) - 2;
            int bit = back ? model.turned % 8 : random.nextInt(10) - 1;
            same("turn(" + k + ", " + bit + ")", object.turn(k, bit) ? 1 : 0, model.turn(k, bit) ? 1 : 0);
        }

        int querySome() {
            int beg = anyPlace();
            if (!model.reads.isEmpty() && random.nextInt(3) > 0) {
                Model.Read near = model.reads.get(random.nextInt(model.reads.size()));
                beg = (random.nextBoolean() ? near.position : near.end()) + random.nextInt(5) - 2;
            }
            int end = beg + random.nextInt(random.nextBoolean() ? 4 : 600);
            int where = random.nextInt(30) == 0 ? random.nextInt(5) - 2 : random.nextInt(2);
            int due = model.query(where, beg, end);
            same("query(" + where + ", " + beg + ", " + end + ")", object.query(where, beg, end), due);
            same("looked()", object.looked(), model.looked);
            for (int i = 0; i < 6; i++) {
                compareFinding();
            }
            return due;
        }

        int anyPlace() {
            return random.nextInt(4110) - 6;
        }

        void op(int kind, int length) {
            same("op(" + kind + ", " + length + ")",
                    object.op(kind, length) ? 1 : 0, model.op(kind, length) ? 1 : 0);
        }

        void base(int code) {
            same("base(" + code + ")", object.base(code) ? 1 : 0, model.base(code) ? 1 : 0);
        }

        void add(int where, int place) {
            same("add(" + where + ", " + place + ")", object.add(where, place), model.add(where, place));
        }

        void scrap() {
            object.scrap();
            model.scrap();
            calls++;
        }

        void clear() {
            object.clear();
            model.clear();
            calls++;
            reference = 0;
            position = 0;
        }

        void compareOne() {
            if (random.nextBoolean()) {
                compareFinding();
                return;
            }
            int size = model.disk == null ? 11 : model.disk.length;
            int k = random.nextInt(size + 6) - 3;
            same("byteAt(" + k + ")", object.byteAt(k), model.byteAt(k));
        }

        void compareFinding() {
            int k = random.nextInt(model.finding.size() + 2) - 1;
            int i = random.nextInt(8) - 1;
            switch (random.nextInt(4)) {
                case 0:
                    same("foundOp(" + k + ", " + i + ")", object.foundOp(k, i), model.foundOp(k, i));
                    break;
                case 1:
                    i = random.nextInt(27) - 1;
                    same("foundBase(" + k + ", " + i + ")", object.foundBase(k, i), model.foundBase(k, i));
                    break;
                default:
                    same("found(" + k + ", " + i + ")", object.found(k, i), model.found(k, i));
            }
        }

        void same(String call, int got, int due) {
            calls++;
            if (calls > CALLS) {
                wrong++;
                System.out.println("run " + run + " has more than " + CALLS + " calls");
            }
            if (got != due) {
                wrong++;
                System.out.println("run " + run + ": " + call + " answered " + got + ", due is " + due);
            }
        }
    }

    /** The document's words, with sets of places instead of comparisons of bounds. */
    private static final class Model {
        static final class Read {
            int reference;
            int position;
            List<int[]> ops = new ArrayList<>();
            List<Integer> bases = new ArrayList<>();
            int streamStart;
            int streamEnd;
            int bin;

            int span() {
                return ops.stream().filter(o -> o[0] == 0 || o[0] == 2 || o[0] == 3).mapToInt(o -> o[1]).sum();
            }

            int width() {
                return ops.stream().filter(o -> o[0] == 0 || o[0] == 1).mapToInt(o -> o[1]).sum();
            }

            int end() {
                return position + span();
            }

            int findBin() {
                for (int bin = 72; bin > 0; bin--) {
                    boolean all = true;
                    for (int place = position; place < end(); place++) {
                        all &= binHas(bin, place);
                    }
                    if (all) {
                        return bin;
                    }
                }
                return 0;
            }
        }

        Read draft = new Read();
        List<Read> reads = new ArrayList<>();
        byte[] disk;
        List<Integer> blockStarts = new ArrayList<>();
        int turned = -1;
        int looked;
        List<Read> finding = new ArrayList<>();

        static boolean binHas(int bin, int place) {
            return bin == 0 || (bin < 9 ? place / 512 == bin - 1 : place / 64 == bin - 9);
        }

        boolean op(int kind, int length) {
            boolean good = kind >= 0 && kind <= 3 && length >= 1 && length <= 63 && draft.ops.size() < 3;
            return good && draft.ops.add(new int[] {kind, length});
        }

        boolean base(int code) {
            return code >= 0 && code <= 15 && draft.bases.size() < 24 && draft.bases.add(code);
        }

        void scrap() {
            draft = new Read();
        }

        int add(int reference, int position) {
            if (disk != null || reads.size() == 24) {
                return -1;
            }
            if (draft.ops.isEmpty() || draft.span() == 0 || draft.width() != draft.bases.size()) {
                return -2;
            }
            if (reference != 0 && reference != 1 || position < 0 || position > 4095
                    || position + draft.span() > 4096) {
                return -3;
            }
            if (!reads.isEmpty()) {
                Read last = reads.get(reads.size() - 1);
                if (10000 * reference + position < 10000 * last.reference + last.position) {
                    return -4;
                }
            }
            draft.reference = reference;
            draft.position = position;
            draft.bin = draft.findBin();
            reads.add(draft);
            draft = new Read();
            return reads.size() - 1;
        }

        int finish() {
            if (disk != null) {
                return -1;
            }
            ByteArrayOutputStream stream = new ByteArrayOutputStream();
            for (Read read : reads) {
                read.streamStart = stream.size();
                byte[] row = rowOf(read);
                stream.write(row.length);
                stream.write(row, 0, row.length);
                read.streamEnd = stream.size();
            }
            byte[] all = stream.toByteArray();
            ByteArrayOutputStream blocks = new ByteArrayOutputStream();
            for (int from = 0; from < all.length; from += 40) {
                writeBlock(blocks, all, from, Math.min(40, all.length - from));
            }
            writeBlock(blocks, all, 0, 0);
            disk = blocks.toByteArray();
            return disk.length;
        }

        static byte[] rowOf(Read read) {
            ByteArrayOutputStream row = new ByteArrayOutputStream();
            row.write(read.reference);
            row.write(read.position % 256);
            row.write(read.position / 256);
            row.write(read.bin);
            row.write(read.ops.size());
            row.write(read.bases.size());
            for (int[] op : read.ops) {
                row.write(4 * op[1] + op[0]);
            }
            List<Integer> bases = new ArrayList<>(read.bases);
            if (bases.size() % 2 == 1) {
                bases.add(0);
            }
            for (int i = 0; i < bases.size(); i += 2) {
                row.write(16 * bases.get(i) + bases.get(i + 1));
            }
            return row.toByteArray();
        }

        void writeBlock(ByteArrayOutputStream blocks, byte[] all, int from, int count) {
            blockStarts.add(blocks.size());
            CRC32 sum = new CRC32();
            sum.update(all, from, count);
            int[] head = {31, 139, 1, count, 0, 255 - count, 255};
            for (int part : head) {
                blocks.write(part);
            }
            blocks.write(all, from, count);
            for (int shift = 0; shift < 32; shift += 8) {
                blocks.write((int) (sum.getValue() >> shift));
            }
        }

        void clear() {
            draft = new Read();
            reads.clear();
            disk = null;
            blockStarts.clear();
            turned = -1;
            looked = 0;
            finding = new ArrayList<>();
        }

        boolean turn(int k, int bit) {
            if (disk == null || k < 0 || k >= disk.length || bit < 0 || bit > 7
                    || turned >= 0 && turned != 8 * k + bit) {
                return false;
            }
            disk[k] ^= (byte) (1 << bit);
            turned = turned >= 0 ? -1 : 8 * k + bit;
            return true;
        }

        int byteAt(int k) {
            return disk == null || k < 0 || k >= disk.length ? -1 : disk[k] & 255;
        }

        int check() {
            return disk == null ? -1 : turned >= 0 ? -2 : reads.size();
        }

        int damagedBlock() {
            int damaged = -1;
            for (int block = 0; turned >= 0 && block < blockStarts.size(); block++) {
                if (blockStarts.get(block) <= turned / 8) {
                    damaged = block;
                }
            }
            return damaged;
        }

        int query(int reference, int beg, int end) {
            if (disk == null || reference < 0 || reference > 1 || beg < 0 || end > 4096 || beg >= end) {
                return -1;
            }
            List<Read> lookedAt = new ArrayList<>();
            boolean begun = false;
            for (Read read : reads) {
                if (read.reference == reference) {
                    begun |= read.end() > beg - beg % 64;
                    if (begun && binMeets(read.bin, beg, end)) {
                        lookedAt.add(read);
                    }
                }
            }
            int damaged = damagedBlock();
            for (Read read : lookedAt) {
                for (int at = read.streamStart; at < read.streamEnd; at++) {
                    if (at / 40 == damaged) {
                        return -2;
                    }
                }
            }
            looked = lookedAt.size();
            finding = new ArrayList<>();
            for (Read read : lookedAt) {
                boolean overlaps = false;
                for (int place = beg; place < end; place++) {
                    overlaps |= place >= read.position && place < read.end();
                }
                if (overlaps) {
                    finding.add(read);
                }
            }
            return finding.size();
        }

        static boolean binMeets(int bin, int beg, int end) {
            for (int place = beg; place < end; place++) {
                if (binHas(bin, place)) {
                    return true;
                }
            }
            return false;
        }

        int found(int k, int which) {
            if (k < 0 || k >= finding.size() || which < 0 || which > 5) {
                return -1;
            }
            Read read = finding.get(k);
            int offset = 64 * blockStarts.get(read.streamStart / 40) + read.streamStart % 40;
            int[] all = {offset, read.position, read.bin, read.end(), read.ops.size(), read.bases.size()};
            return all[which];
        }

        int foundOp(int k, int i) {
            if (k < 0 || k >= finding.size() || i < 0 || i >= finding.get(k).ops.size()) {
                return -1;
            }
            int[] op = finding.get(k).ops.get(i);
            return 4 * op[1] + op[0];
        }

        int foundBase(int k, int i) {
            if (k < 0 || k >= finding.size() || i < 0 || i >= finding.get(k).bases.size()) {
                return -1;
            }
            return finding.get(k).bases.get(i);
        }
    }
}
