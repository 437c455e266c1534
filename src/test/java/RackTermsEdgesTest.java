/** The document's terms from the rack to the refused events: each sentence that names a boundary. */
public final class RackTermsEdgesTest {
    private static void disksAndRows() {
        for (int disks : new int[] {6, 16}) {
            for (int rows : new int[] {48, 64}) {
                DiskPool pool = new DiskPool(disks, 3, rows);
                Due.due("so many disks", disks, () -> pool.look(10));
                Due.due("so many rows", rows * ((disks - 1) / 3), () -> pool.look(7));
                Due.due("the last row", Pools.home(disks, rows - 1, 0), () -> pool.place(rows - 1, 0));
                Due.due("none behind it", Due.ARGUMENT, () -> pool.place(rows, 0));
                Due.due("the last disk", true, pool.fail(disks - 1));
                Due.due("none behind it", Due.ARGUMENT, () -> Due.one(pool.fail(disks)));
            }
        }
    }

    private static void seventyBytes() {
        for (int at = 0; at < 70; at++) {
            DiskPool pool = new DiskPool(6, 3, 48);
            Due.due("byte " + at, true, pool.spoil(0, 0, at, 1, 1));
            Due.due("spoilt by byte " + at, 1, () -> pool.look(3));
        }
        DiskPool pool = new DiskPool(6, 3, 48);
        Due.refused("no byte behind them", Due.ARGUMENT, pool, () -> Due.one(pool.spoil(0, 0, 70, 1, 1)));
    }

    private static void blankTillWritten() {
        DiskPool pool = Pools.committed();
        pool.fail(0);
        pool.replace(0);
        Due.due("blank", false, pool.spoil(0, 0, 0, 1, 1));
        Due.due("written", 1, pool::copyBack);
        Due.due("not blank", true, pool.spoil(0, 0, 0, 1, 1));
        Due.due("so the next one is written", 1, pool::copyBack);
        Due.due("not the same once more", 1, () -> pool.look(3));
        Due.due("all the others", 22, () -> Pools.steps(pool::copyBack));
    }

    private static void failedDisk() {
        DiskPool pool = Pools.withFile();
        pool.lose(2);
        pool.sync();
        Due.due("the log of disk 2 was written", 1, () -> pool.look(1));
        pool.fail(2);
        Due.due("opens", true, pool.open());
        Due.due("it has no log", 1, () -> pool.look(1));
        for (int row = 0; row < 48; row++) Due.due("no cell to spoil", false, pool.spoil(2, row, 0, 1, 1));
        Due.due("no cell that is spoilt", 0, () -> pool.look(3));
        Due.due("no cell that is a free spare", 144 - 24, () -> pool.look(4));
    }

    private static void replacedDisk() {
        DiskPool pool = Pools.withFile();
        pool.lose(2);
        pool.sync();
        pool.fail(2);
        pool.replace(2);
        Due.due("opens", true, pool.open());
        Due.due("its log is blank", 1, () -> pool.look(1));
        Due.due("it is live", 6, () -> pool.look(11));
        for (int row = 0; row < 48; row++) Due.due("blank, so no place", false, pool.spoil(2, row, 0, 1, 1));
        Due.due("blank is not spoilt", 0, () -> pool.look(3));
        Due.due("blank spares are free", 144, () -> pool.look(4));
        Due.due("all homes are blank", 24, () -> Pools.steps(pool::copyBack));
        // In row 0 the position 2 lies on disk 2.
        Due.due("written, so a place", true, pool.spoil(2, 0, 0, 1, 1));
    }

    /** The check, step by step as the document tells it. */
    private static long check(byte[] bytes) {
        long v = 0xFFFFFFFFL;
        for (byte b : bytes) {
            v ^= b & 255;
            for (int i = 0; i < 8; i++) {
                boolean fell = (v & 1) == 1;
                v >>= 1;
                if (fell) v ^= 2197175160L;
            }
        }
        return v ^ 0xFFFFFFFFL;
    }

    /** What one changed byte of the first 66 changes in the check; it does not hang on the others. */
    private static long changeOfCheck(int at, int mask) {
        byte[] bytes = new byte[66];
        long before = check(bytes);
        bytes[at] ^= (byte) mask;
        return before ^ check(bytes);
    }

    private static void checkOfAllBytes() {
        DiskPool pool = new DiskPool(6, 3, 48);
        for (int at = 0; at < 66; at++) {
            int mask = 1 + at * 37 % 255;
            int from = at;
            Due.due("byte " + at, true, pool.spoil(0, 0, at, 1, mask));
            Due.due("spoilt by byte " + at, 1, () -> pool.look(3));
            Due.due("the check of byte " + at, false, pool.spoil(0, 0, 66, 4, changeOfCheck(from, mask)));
            Due.due("back, byte " + at, true, pool.spoil(0, 0, at, 1, mask));
            Due.due("valid, byte " + at, 0, () -> pool.look(3));
        }
        for (int at = 66; at < 70; at++) {
            Due.due("a byte of the check", true, pool.spoil(0, 0, at, 1, 128));
            Due.due("spoilt by it", 1, () -> pool.look(3));
            Due.due("back", true, pool.spoil(0, 0, at, 1, 128));
        }
    }

    private static void validAgain() {
        DiskPool pool = Pools.committed();
        Due.due("a first half", true, pool.spoil(0, 0, 0, 2, 0x0102));
        Due.due("a second half", true, pool.spoil(0, 0, 2, 2, 0x0304));
        Due.due("the first one back", true, pool.spoil(0, 0, 0, 2, 0x0102));
        Due.due("its check is not right", 1, () -> pool.look(3));
        Due.due("the second one back", true, pool.spoil(0, 0, 2, 2, 0x0304));
        Due.due("its check is right", 0, () -> pool.look(3));
        int writes = pool.look(1);
        Due.due("so nothing is to be mended", 0, pool::scrub);
        Due.due("nor written", writes, () -> pool.look(1));
    }

    private static void powerAtAWrite() {
        for (int n : new int[] {1, 2, 39, 40}) {
            DiskPool pool = Pools.withFile();
            pool.lose(n);
            Due.due("lost at write " + n, -9, pool::sync);
            Due.due("all before it were done", n - 1, () -> pool.look(1));
            Due.due("off", 0, () -> pool.look(0));
        }
        DiskPool pool = Pools.withFile();
        pool.lose(41);
        Due.due("behind the last write", 4, pool::sync);
        Due.due("all were done", 40, () -> pool.look(1));
        Due.due("on", 1, () -> pool.look(0));
        pool.cut(1, 2);
        Due.due("the next one is the one", -9, pool::sync);
        Due.due("and is not done", 40, () -> pool.look(1));
    }

    private static void widths() {
        for (int disks = 6; disks <= 16; disks++) {
            for (int width = 3; width <= 8; width++) {
                DiskPool pool = new DiskPool(disks, width, 48);
                int want = width < disks ? width : 3;
                Due.due(width + " of " + disks, want, () -> pool.look(9));
            }
        }
    }

    private static void groups() {
        for (int disks = 6; disks <= 16; disks++) {
            for (int width = 3; width <= 8 && width < disks; width++) {
                DiskPool pool = new DiskPool(disks, width, 50);
                int groups = 0;
                while (width * (groups + 1) <= disks - 1) groups++;
                int many = groups;
                int k = width;
                String what = disks + " disks, width " + width;
                Due.due(what + ": stripes", 50 * groups, () -> pool.look(7));
                Due.due(what + ": blocks", 50 * groups * (width - 1), () -> pool.look(5));
                Due.due(what + ": spares", 50 * (disks - width * groups), () -> pool.look(4));
                Due.due(what + ": the last position", Pools.home(disks, 0, k * many - 1), () -> pool.place(0, k * many - 1));
                Due.due(what + ": the first spare", Due.ARGUMENT, () -> pool.place(0, k * many));
            }
        }
    }

    /** Each disk comes round, and behind the last of the steps the first. */
    private static void homes() {
        for (int disks = 6; disks <= 16; disks++) {
            DiskPool pool = new DiskPool(disks, disks == 6 ? 5 : 3, 64);
            int last = (disks == 6 ? 5 : (disks - 1) / 3 * 3) - 1;
            for (int row = 0; row < 64; row++) {
                int r = row;
                Due.due("position 0", Pools.home(disks, r, 0), () -> pool.place(r, 0));
                Due.due("position 1", Pools.home(disks, r, 1), () -> pool.place(r, 1));
                Due.due("the last position", Pools.home(disks, r, last), () -> pool.place(r, last));
            }
        }
        DiskPool pool = new DiskPool(6, 5, 64);
        int[] due = {0, 1, 2, 3, 4, 1, 0, 5, 4, 3, 2, 3, 4, 5, 0};
        for (int i = 0; i < due.length; i++) {
            int at = i;
            Due.due("steps 1, 5, 1", due[i], () -> pool.place(at / 5, at % 5));
        }
    }

    /** A spoilt cell is mended by the scrubbing of its stripe. */
    private static void stripes() {
        int[][] cases = {{0, 0, 0}, {0, 2, 0}, {0, 3, 1}, {0, 14, 4}, {1, 0, 5}, {63, 11, 318}, {63, 12, 319}, {63, 14, 319}};
        for (int[] c : cases) {
            DiskPool pool = new DiskPool(16, 3, 64);
            Due.due("spoilt", true, pool.spoil(Pools.home(16, c[0], c[1]), c[0], 0, 1, 1));
            int steps = 0;
            while (steps < 400 && pool.scrub() == 0) steps++;
            int found = steps;
            Due.due("row " + c[0] + ", position " + c[1], c[2], () -> found);
        }
    }

    private static void spares() {
        DiskPool pool = new DiskPool(9, 4, 48);
        Due.due("one in a row", 48, () -> pool.look(4));
        Due.due("the last position is none", true, pool.spoil(Pools.home(9, 5, 7), 5, 0, 1, 1));
        Due.due("a spare is no place", false, pool.spoil(Pools.home(9, 6, 8), 6, 0, 1, 1));
        DiskPool other = new DiskPool(9, 8, 48);
        Due.due("one in a row", 48, () -> other.look(4));
        other.fail(0);
        Due.due("rebuilt", 1, other::rebuild);
        Due.due("the position 8 is the spare", 8, () -> other.place(0, 0));
    }

    /** A block that is written makes its own cell valid, and no other one but parity. */
    private static void blocks() {
        int[][] shapes = {{6, 3, 48}, {7, 3, 48}, {9, 8, 64}, {16, 5, 64}};
        for (int[] s : shapes) {
            int k = s[1];
            int groups = (s[0] - 1) / k;
            int last = s[2] * groups * (k - 1) - 1;
            for (int block : new int[] {60, 61, 62, last - 1, last}) {
                DiskPool pool = new DiskPool(s[0], k, s[2]);
                int inode = Pools.file(pool, 1, (last - 59) * 64);
                int stripe = block / (k - 1);
                int position = k * (stripe % groups) + block % (k - 1);
                int beside = k * (stripe % groups) + (block + 1) % (k - 1);
                int row = stripe / groups;
                Due.due("the cell beside it", true, pool.spoil(Pools.home(s[0], row, beside), row, 0, 1, 1));
                write(pool, inode, 64 * (offsetOf(pool, inode, block)), 5);
                Due.due("not mended by block " + block, 1, () -> pool.look(3));
                pool.spoil(Pools.home(s[0], row, beside), row, 0, 1, 1);
                Due.due("its cell", true, pool.spoil(Pools.home(s[0], row, position), row, 0, 1, 1));
                write(pool, inode, 64 * (offsetOf(pool, inode, block)), 6);
                Due.due("mended by block " + block, 0, () -> pool.look(3));
            }
        }
    }

    private static int offsetOf(DiskPool pool, int inode, int block) {
        int before = 0;
        for (int e = 0; e < pool.node(inode, 2); e++) {
            int first = pool.node(inode, 3 + 2 * e);
            int length = pool.node(inode, 4 + 2 * e);
            if (block >= first && block < first + length) return before + block - first;
            before += length;
        }
        return -1;
    }

    private static void write(DiskPool pool, int inode, int offset, int value) {
        pool.feed(1, value);
        pool.write(inode, offset);
        pool.sync();
    }

    private static void logs() {
        for (int rows : new int[] {48, 64}) {
            DiskPool pool = new DiskPool(6, 3, rows);
            int disk = Pools.home(6, rows - 1, 0);
            Due.refused("a log", Due.ARGUMENT, pool, () -> Due.one(pool.spoil(disk, rows, 0, 1, 1)));
            Due.due("a cell of the last row", true, pool.spoil(disk, rows - 1, 0, 1, 1));
        }
        // The log of parity's disk tells of block 1: with it away, opening has nothing to do.
        for (int disk = 0; disk < 6; disk++) {
            DiskPool pool = Pools.withFile();
            pool.lose(4);
            pool.sync();
            pool.fail(disk);
            pool.open();
            int want = disk == 2 ? 3 : disk == 1 ? 4 : 5;
            Due.due("without disk " + disk, want, () -> pool.look(1));
        }
    }

    /** A spare is found again by its tag, which is above 0 for the position 0, too. */
    private static void tagsOfSpares() {
        for (int position : new int[] {0, 1, 7}) {
            DiskPool pool = new DiskPool(10, 4, 48);
            int disk = Pools.home(10, 0, position);
            pool.fail(disk);
            pool.rebuild();
            int spare = Pools.home(10, 0, 8);
            Due.due("rebuilt", spare, () -> pool.place(0, position));
            pool.off();
            Due.due("found", spare, () -> pool.place(0, position));
            for (int p = 0; p < 8; p++) {
                int other = p;
                if (p != position) Due.due("not found for another", Pools.home(10, 0, p), () -> pool.place(0, other));
            }
            pool.open();
            Due.due("found", spare, () -> pool.place(0, position));
            Due.due("none was to be cleared", 1, () -> pool.look(1));
        }
    }

    /** The spare of row 0 stands for position 0 alone: another one that is lost is not found there. */
    private static void tagsOfOnePosition() {
        DiskPool pool = Pools.committed();
        pool.fail(0);
        Pools.steps(pool::rebuild);
        pool.fail(1);
        pool.off();
        Due.due("position 0", 3, () -> pool.place(0, 0));
        Due.due("position 1", -1, () -> pool.place(0, 1));
        Due.due("position 2", 2, () -> pool.place(0, 2));
        Due.due("lost are the homes and the spares of disk 1", 24 + 8, () -> pool.look(2));
    }

    /** Power goes at parity's write for the volume's last block: opening finds its stripe by the log. */
    private static void tagsOfLogs() {
        for (int[] s : new int[][] {{6, 3, 48}, {9, 8, 64}, {16, 3, 64}, {16, 5, 64}}) {
            int last = s[2] * ((s[0] - 1) / s[1]) * (s[1] - 1) - 1;
            DiskPool pool = new DiskPool(s[0], s[1], s[2]);
            int inode = Pools.file(pool, 1, (last - 59) * 64);
            pool.sync();
            int before = pool.look(1);
            pool.feed(1, 9);
            pool.write(inode, (last - 60) * 64);
            Due.due("the last block", 1, () -> pool.look(15));
            Due.due("all are taken", 0, () -> pool.look(13));
            // The payload, the head, and the log and the cell of the target.
            pool.lose(4 + 4 + 3);
            Due.due("lost", -9, pool::sync);
            Due.due("ten were done", before + 10, () -> pool.look(1));
            pool.open();
            Due.due("parity, the log, the target, the head", before + 10 + 2 + 8, () -> pool.look(1));
            Due.due("it is there", 9, () -> pool.read(inode, (last - 60) * 64));
        }
    }

    /** Without the log's help a stripe whose payload is half written would be a hole. */
    private static void noHoles() {
        for (int n = 1; n <= 20; n++) {
            DiskPool pool = new DiskPool(9, 8, 48);
            pool.make(0, 0xABCD, false);
            Pools.feed(pool, 64, 0x5A);
            pool.write(1, 0);
            pool.lose(n);
            pool.sync();
            pool.open();
            for (int s = 0; s < 48; s++) Due.due("nothing to mend", 0, pool::scrub);
            Due.due("no hole at " + n, 0, () -> pool.look(6));
        }
    }

    private static void lostTillRebuilt() {
        DiskPool pool = Pools.committed();
        pool.fail(0);
        Due.due("lost", -1, () -> pool.place(0, 0));
        pool.replace(0);
        Due.due("lost when its disk is replaced", -1, () -> pool.place(0, 0));
        Due.due("all of them", 24, () -> pool.look(2));
        Pools.reopen(pool);
        Due.due("and behind an opening", 24, () -> pool.look(2));
        pool.copyBack();
        Due.due("till it is copied back", 0, () -> pool.place(0, 0));
        Due.due("it alone", 23, () -> pool.look(2));
        DiskPool other = Pools.committed();
        other.fail(0);
        other.rebuild();
        Due.due("or rebuilt", 3, () -> other.place(0, 0));
        Due.due("it alone", 23, () -> other.look(2));
        // No stripe lies on the disks 0 and 3 both.
        Due.due("the spare's disk", true, other.fail(3));
        Due.due("lost again", -1, () -> other.place(0, 0));
    }

    private static void freeSpares() {
        DiskPool pool = Pools.committed();
        Due.due("all", 144, () -> pool.look(4));
        pool.fail(0);
        Due.due("those on live disks", 120, () -> pool.look(4));
        pool.rebuild();
        Due.due("a place is not free", 119, () -> pool.look(4));
        pool.replace(0);
        Due.due("the blank ones are", 143, () -> pool.look(4));
        pool.copyBack();
        Due.due("the one that was a place is again", 144, () -> pool.look(4));
    }

    private static void spoiltCells() {
        DiskPool pool = Pools.committed();
        Due.due("none", 0, () -> pool.look(3));
        Due.due("a home", true, pool.spoil(0, 0, 0, 1, 1));
        Due.due("one", 1, () -> pool.look(3));
        Due.due("a free spare", false, pool.spoil(3, 0, 0, 1, 1));
        pool.fail(0);
        Due.due("what is lost is not spoilt", 0, () -> pool.look(3));
        pool.rebuild();
        Due.due("a spare that is a place", true, pool.spoil(3, 0, 0, 1, 1));
        Due.due("one", 1, () -> pool.look(3));
        Due.due("has its place", 3, () -> pool.place(0, 0));
    }

    /** A file over all data columns of a stripe of eight: each of them is read without its cell. */
    private static void reckoned() {
        for (int column = 0; column < 8; column++) {
            DiskPool pool = new DiskPool(9, 8, 48);
            int inode = Pools.file(pool, 1, 11 * 64);
            // The blocks 63 .. 69 are those of stripe 9, the blocks 3 .. 9 of the file.
            for (int b = 3; b < 10; b++) {
                pool.feed(8, 0x0101010101010101L * (b * 11));
                pool.write(inode, 64 * b + 56);
            }
            pool.sync();
            Due.due("spoilt", true, pool.spoil(Pools.home(9, 9, column), 9, 56, 1, 255));
            readAll(pool, inode, "spoilt column " + column);
            Pools.reopen(pool);
            readAll(pool, inode, "opened, spoilt column " + column);
            pool.fail(Pools.home(9, 9, column));
            readAll(pool, inode, "lost column " + column);
        }
    }

    private static void readAll(DiskPool pool, int inode, String what) {
        for (int b = 3; b < 10; b++) {
            int block = b;
            Due.due(what + ", block " + b, 0x0101010101010101L * (b * 11), () -> pool.read(inode, 64 * block + 56));
        }
    }

    /**
     * One block is changed: the blocks 1, 0, 25 and 0 are written. The blocks 0 and 1 are the columns of
     * stripe 0, block 25 is column 1 of stripe 12: both stripes lie on the disks 0, 1 and 2.
     */
    private static void writesOfABlock() {
        int[] due = {4 + 1 + 4 + 1, 1 + 4 + 1 + 4, 1 + 1 + 1 + 1, 16, 16, 16};
        for (int disk = 0; disk < 6; disk++) {
            DiskPool pool = Pools.committed();
            pool.fail(disk);
            pool.cut(1, 2);
            Due.due("committed", 1, pool::sync);
            int want = 40 + due[disk];
            Due.due("without disk " + disk, want, () -> pool.look(1));
            Pools.reopen(pool);
            Due.due("there without disk " + disk, 2, () -> pool.node(1, 1));
            Due.due("nothing strayed", 0, () -> pool.look(19));
        }
    }

    /** The blocks 60 and 61 are the data of stripe 30, on the disks 0 and 1. */
    private static void othersAsTheyAreRead() {
        for (boolean spoilt : new boolean[] {true, false}) {
            DiskPool pool = Pools.committed();
            pool.cut(1, 128);
            write(pool, 1, 64, 50);
            Due.due("the other data", true, spoilt ? pool.spoil(0, 30, 0, 8, 0x1111) : pool.fail(0));
            write(pool, 1, 64, 51);
            Due.due("as it was", 77, () -> pool.read(1, 0));
            Due.due("as it is", 51, () -> pool.read(1, 64));
            pool.replace(0);
            Pools.steps(pool::copyBack);
            for (int s = 0; s < 48; s++) pool.scrub();
            Due.due("mended", 0, () -> pool.look(2) + pool.look(3));
            Due.due("no hole", 0, () -> pool.look(6));
            Due.due("as it was, mended", 77, () -> pool.read(1, 0));
            Due.due("as it is, mended", 51, () -> pool.read(1, 64));
        }
    }

    private static void lossToldWhileOff() {
        DiskPool pool = Pools.withFile();
        pool.lose(3);
        pool.sync();
        pool.lose(2);
        Due.due("the second write of the opening", false, pool.open());
        Due.due("one was done", 3, () -> pool.look(1));
        pool.lose(3);
        Due.due("behind the last write of the opening", true, pool.open());
        Due.due("two were done", 5, () -> pool.look(1));
        pool.make(0, 7, false);
        Due.due("it counts on", -9, pool::sync);
        Due.due("none was done", 5, () -> pool.look(1));
    }

    private static void placesFound() {
        DiskPool pool = Pools.committed();
        pool.spoil(0, 0, 0, 1, 1);
        pool.off();
        Due.due("a home that is spoilt", 0, () -> pool.place(0, 0));
        Due.due("is spoilt", 1, () -> pool.look(3));
        pool.fail(0);
        Due.due("a home that is failed", -1, () -> pool.place(0, 0));
        pool.replace(0);
        Due.due("a home that is blank", -1, () -> pool.place(0, 0));
        DiskPool other = Pools.committed();
        other.fail(0);
        Pools.steps(other::rebuild);
        other.spoil(3, 0, 64, 1, 1);
        other.off();
        Due.due("a spare that is not valid", -1, () -> other.place(0, 0));
        Due.due("one that is", 4, () -> other.place(1, 1));
        Due.due("the disk of a spare fails", true, other.fail(4));
        Due.due("one that is failed", -1, () -> other.place(1, 1));
    }

    /** The log of block 1 tells of stripe 0: column 1 on disk 1, parity on disk 2. */
    private static void logsAtAnOpening() {
        // The logs of the disks 2, 5, 5, 4, 2, 2, 0, 3, 2 and 2 are written in turn, for columns 0 and 1.
        for (int n = 1; n <= 40; n++) {
            DiskPool pool = Pools.withFile();
            pool.lose(n);
            pool.sync();
            pool.open();
            int log = (n - 1) % 4 == 0 ? 0 : 2;
            int journal = n > 4 * 4 + 2 && n <= 9 * 4 + 2 ? 5 * 4 : 0;
            int want = n - 1 + log + journal;
            Due.due("lost at write " + n, want, () -> pool.look(1));
            Pools.reopen(pool);
            Due.due("once", want, () -> pool.look(1));
        }
        DiskPool spoilt = Pools.withFile();
        spoilt.spoil(1, 0, 0, 1, 1);
        spoilt.lose(2);
        spoilt.sync();
        spoilt.open();
        Due.due("column j has a place that is spoilt: the log alone", 1 + 1, () -> spoilt.look(1));
        Due.due("spoilt still", 1, () -> spoilt.look(3));
        DiskPool written = Pools.withFile();
        written.spoil(1, 0, 0, 1, 1);
        written.lose(3);
        written.sync();
        written.open();
        Due.due("it was written", 2 + 2, () -> written.look(1));
        DiskPool without = Pools.withFile();
        without.lose(2);
        without.sync();
        without.fail(1);
        without.open();
        Due.due("column j has no place: the log alone", 1 + 1, () -> without.look(1));
    }

    private static void logsOfSpares() {
        DiskPool pool = Pools.withFile();
        pool.fail(2);
        pool.rebuild();
        Due.due("parity is on a spare", 3, () -> pool.place(0, 2));
        pool.lose(3);
        pool.sync();
        pool.open();
        Due.due("its disk has the log", 1 + 2 + 2, () -> pool.look(1));
        DiskPool spoilt = Pools.withFile();
        spoilt.fail(2);
        spoilt.rebuild();
        spoilt.spoil(3, 0, 0, 1, 1);
        spoilt.lose(3);
        spoilt.sync();
        spoilt.open();
        Due.due("parity has no place: the log alone", 1 + 2 + 1, () -> spoilt.look(1));
        Due.due("lost", -1, () -> spoilt.place(0, 2));
    }

    private static void sparesAtAnOpening() {
        DiskPool pool = Pools.committed();
        pool.fail(0);
        Pools.steps(pool::rebuild);
        pool.replace(0);
        pool.lose(2);
        Due.due("the spare is left", -9, pool::copyBack);
        int writes = pool.look(1);
        pool.lose(1);
        Due.due("power is lost at that", false, pool.open());
        Due.due("opens", true, pool.open());
        Due.due("it becomes 0s", writes + 1, () -> pool.look(1));
        Pools.reopen(pool);
        Due.due("once", writes + 1, () -> pool.look(1));
        Due.due("those that are places stay", 144 - 23, () -> pool.look(4));
        DiskPool other = Pools.committed();
        other.fail(0);
        other.rebuild();
        other.spoil(3, 0, 0, 1, 1);
        Pools.reopen(other);
        Due.due("one that is not valid stays", 41, () -> other.look(1));
        Due.due("and is free", 120, () -> other.look(4));
    }

    private static void powerInAnOpening() {
        for (int n = 1; n <= 22; n++) {
            DiskPool pool = Pools.withFile();
            pool.lose(23);
            pool.sync();
            pool.lose(n);
            Due.due("lost at " + n, false, pool.open());
            Due.due("off again at " + n, 0, () -> pool.look(0));
            Due.due("no files", -1, () -> pool.look(13));
        }
        DiskPool pool = Pools.withFile();
        pool.lose(23);
        pool.sync();
        pool.lose(23);
        Due.due("lost behind it", true, pool.open());
        Due.due("on", 1, () -> pool.look(0));
    }

    private static void bytesAtAnOpening() {
        DiskPool pool = Pools.committed();
        pool.feed(1, 78);
        pool.write(1, 0);
        pool.make(0, 8, true);
        Due.due("changed", 3, () -> pool.look(15));
        Pools.reopen(pool);
        Due.due("nothing is changed", 0, () -> pool.look(15));
        Due.due("the bytes are those committed", 77, () -> pool.read(1, 0));
        Due.due("and the entries", -1, () -> pool.find(0, 8));
        Due.due("and the inodes", 62, () -> pool.look(14));
    }

    /** With width 3 of 7 disks a row has two stripes and one spare. */
    private static void rebuilding() {
        DiskPool pool = new DiskPool(7, 3, 48);
        Due.due("none is lost", 0, pool::rebuild);
        pool.fail(0);
        int lost = pool.look(2);
        Due.due("each row has its spare", lost, () -> Pools.steps(pool::rebuild));
        Due.due("no write more", lost, () -> pool.look(1));
        Due.due("a second one", true, pool.fail(1));
        Due.refused("no spare is free", 0, pool, pool::rebuild);
        Due.due("many are lost", true, pool.look(2) > 40);
        pool.replace(0);
        int row = 0;
        while (Pools.home(7, row, 6) != 0) row++;
        int first = row;
        Due.due("the first row whose spare is free", 1, pool::rebuild);
        int position = 0;
        while (Pools.home(7, row, position) != 1) position++;
        int there = position;
        Due.due("it is rebuilt", 0, () -> pool.place(first, there));
        DiskPool other = new DiskPool(7, 3, 48);
        other.fail(0);
        other.replace(0);
        Due.refused("a home that is live", 0, other, other::rebuild);
    }

    private static void rebuildingToTheFirstSpare() {
        DiskPool pool = Pools.committed();
        pool.fail(3);
        Pools.steps(pool::rebuild);
        pool.fail(0);
        Due.due("rebuilt", 1, pool::rebuild);
        Due.due("not onto the failed disk", 4, () -> pool.place(0, 0));
        DiskPool taken = new DiskPool(6, 3, 48);
        taken.fail(0);
        taken.rebuild();
        Pools.steps(taken::rebuild);
        taken.fail(1);
        Due.due("the next one", 1, taken::rebuild);
        Due.due("not onto one that is a place", 4, () -> taken.place(0, 1));
        Due.due("which stays", 3, () -> taken.place(0, 0));
    }

    private static void copyingBack() {
        DiskPool pool = Pools.committed();
        Due.refused("no home is blank", 0, pool, pool::copyBack);
        pool.spoil(0, 0, 0, 1, 1);
        Due.refused("a spoilt one is not blank", 0, pool, pool::copyBack);
        pool.fail(0);
        Due.refused("its disk is not live", 0, pool, pool::copyBack);
    }

    private static void copyingToTheLast() {
        DiskPool pool = Pools.committed();
        pool.fail(0);
        pool.rebuild();
        pool.replace(0);
        Due.due("one that has a spare", 1, pool::copyBack);
        Due.due("two writes", 40 + 1 + 2, () -> pool.look(1));
        Due.due("home", 0, () -> pool.place(0, 0));
        Due.due("one that is lost", 1, pool::copyBack);
        Due.due("one write", 43 + 1, () -> pool.look(1));
        Due.due("home", 0, () -> pool.place(1, 1));
        Due.due("the rest", 22, () -> Pools.steps(pool::copyBack));
        Due.refused("none is blank", 0, pool, pool::copyBack);
    }

    /** A spare that is spoilt is not copied as it is. */
    private static void copyingWhatIsRead() {
        DiskPool pool = Pools.committed();
        pool.fail(0);
        Pools.steps(pool::rebuild);
        pool.replace(0);
        // Block 60 is column 0 of stripe 30, whose spares are on the disks 3, 4 and 5.
        Due.due("the spare of block 60", true, pool.spoil(3, 30, 0, 1, 255));
        Pools.steps(pool::copyBack);
        Due.due("none is spoilt", 0, () -> pool.look(3));
        Due.due("home", 0, () -> pool.place(30, 0));
        Due.due("as it was", 77, () -> pool.read(1, 0));
        Due.due("nothing strayed", 0, () -> pool.look(19));
    }

    private static void scrubbing() {
        DiskPool pool = Pools.committed();
        Due.due("0 at first", 0, () -> pool.look(8));
        for (int s = 1; s < 48; s++) {
            int next = s;
            pool.scrub();
            Due.due("the next one", next, () -> pool.look(8));
        }
        pool.scrub();
        Due.due("behind the last one 0", 0, () -> pool.look(8));
        Due.due("spoilt", true, pool.spoil(2, 0, 0, 1, 1));
        pool.lose(1);
        Due.due("power ends it", -9, pool::scrub);
        Due.due("it goes on", 1, () -> pool.look(8));
        pool.lose(1);
        pool.open();
        Due.due("from the beginning of an opening on", 0, () -> pool.look(8));
        pool.lose(0);
        Due.due("mended", 1, pool::scrub);
        Due.due("it goes on", 1, () -> pool.look(8));
        Due.due("one write", 41, () -> pool.look(1));
    }

    private static void scrubbingTheLastStripe() {
        DiskPool pool = new DiskPool(6, 3, 48);
        for (int s = 0; s < 47; s++) pool.scrub();
        pool.spoil(Pools.home(6, 47, 0), 47, 0, 1, 1);
        pool.lose(1);
        Due.due("power ends the last one", -9, pool::scrub);
        Due.due("behind the last one 0", 0, () -> pool.look(8));
    }

    private static void holes() {
        DiskPool pool = Pools.committed();
        Due.due("0 at first", 0, () -> pool.look(6));
        pool.fail(1);
        for (int s = 0; s < 48; s++) Due.due("a stripe with one that is lost", 0, pool::scrub);
        Due.due("is no hole", 0, () -> pool.look(6));
        pool.off();
        Due.due("told while it is off", 0, () -> pool.look(6));
    }

    private static void refusedEvents() {
        DiskPool lost = Pools.committed();
        lost.fail(0);
        Due.refused("lost, and one more lost", 0, lost, () -> Due.one(lost.fail(1)));
        Due.refused("lost, and one spoilt", 0, lost, () -> Due.one(lost.spoil(1, 0, 0, 1, 1)));
        Due.refused("lost, and parity spoilt", 0, lost, () -> Due.one(lost.spoil(2, 0, 0, 1, 1)));
        DiskPool spoilt = Pools.committed();
        spoilt.spoil(0, 0, 0, 1, 1);
        Due.refused("spoilt, and one more spoilt", 0, spoilt, () -> Due.one(spoilt.spoil(2, 0, 0, 1, 1)));
        Due.refused("spoilt, and one lost", 0, spoilt, () -> Due.one(spoilt.fail(1)));
        Due.due("the spoilt one once more", true, spoilt.spoil(0, 0, 9, 1, 1));
        Due.due("a disk beside the stripe", true, spoilt.fail(3));
        Due.due("none is lost of it", 1, () -> spoilt.look(3));
        DiskPool first = Pools.committed();
        first.spoil(1, 0, 0, 1, 1);
        Due.refused("refused for the first cell of all", 0, first, () -> Due.one(first.fail(0)));
        DiskPool itself = Pools.committed();
        itself.spoil(0, 0, 0, 1, 1);
        Due.due("the spoilt one lost", true, itself.fail(0));
    }

    /** With 7 disks two stripes are in one row: what is wrong in the one is no matter in the other. */
    private static void refusedByStripes() {
        DiskPool pool = new DiskPool(7, 3, 48);
        Due.due("the first stripe", true, pool.spoil(0, 0, 0, 1, 1));
        Due.due("the second stripe", true, pool.spoil(3, 0, 0, 1, 1));
        Due.due("refused in the first", false, pool.spoil(2, 0, 0, 1, 1));
        Due.due("refused in the second", false, pool.spoil(5, 0, 0, 1, 1));
        DiskPool last = new DiskPool(7, 3, 48);
        last.spoil(Pools.home(7, 47, 5), 47, 0, 1, 1);
        Due.due("refused for the last stripe alone", false, last.fail(Pools.home(7, 47, 4)));
        Due.due("none", 0, () -> last.look(2));
        Due.due("the stripe before it", true, last.fail(Pools.home(7, 47, 2)));
    }

    private static void refusedWhileOff() {
        DiskPool pool = Pools.committed();
        pool.fail(0);
        pool.rebuild();
        pool.spoil(3, 0, 0, 1, 1);
        pool.off();
        Due.refused("lost while it is off", 0, pool, () -> Due.one(pool.fail(1)));
        DiskPool rebuilt = Pools.committed();
        rebuilt.fail(0);
        Pools.steps(rebuilt::rebuild);
        rebuilt.off();
        Due.due("none is lost", true, rebuilt.fail(1));
        Due.refused("now one is", 0, rebuilt, () -> Due.one(rebuilt.fail(3)));
        DiskPool home = Pools.committed();
        home.fail(0);
        Pools.steps(home::rebuild);
        home.replace(0);
        home.lose(2);
        home.copyBack();
        Due.due("the spare of row 0 is no place", 0, () -> home.place(0, 0));
        Due.due("the home's disk fails", true, home.fail(0));
        Due.due("so opening finds the spare", 3, () -> home.place(0, 0));
        Due.due("all is there", true, home.open());
        Due.due("all is there", 77, () -> home.read(1, 0));
    }

    public static void main(String[] args) {
        Due.holds("THE RACK has DISKS d, 6 .. 16 of them, ... OFFSETS 0 .. ROWS (ROWS 48 .. 64)", RackTermsEdgesTest::disksAndRows);
        Due.holds("A cell has 64 bytes, a TAG (two bytes, lowest first) and a CHECK (four bytes, lowest first): 70 bytes", RackTermsEdgesTest::seventyBytes);
        Due.holds("It is BLANK till it is WRITTEN", RackTermsEdgesTest::blankTillWritten);
        Due.holds("a disk that is failed has no cells", RackTermsEdgesTest::failedDisk);
        Due.holds("one that is replaced is live, and all its cells are blank", RackTermsEdgesTest::replacedDisk);
        Due.holds("CHECK of the 66 bytes before", RackTermsEdgesTest::checkOfAllBytes);
        Due.holds("A cell is VALID if it is written and its check is right", RackTermsEdgesTest::validAgain);
        Due.holds("that write and all behind it are not done; the pool is OFF", RackTermsEdgesTest::powerAtAWrite);
        Due.holds("WIDTH k is 3 .. 8, less than the number n of disks", RackTermsEdgesTest::widths);
        Due.holds("GROUPS = (n - 1) / k, cut off", RackTermsEdgesTest::groups);
        Due.holds("position p (0 .. n - 1) lies on disk (r + p * t) mod n", RackTermsEdgesTest::homes);
        Due.holds("STRIPE s: row s / GROUPS, positions k * (s mod GROUPS) + j", RackTermsEdgesTest::stripes);
        Due.holds("The positions from k * GROUPS on are SPARES", RackTermsEdgesTest::spares);
        Due.holds("block b is column b mod (k - 1) of stripe b / (k - 1)", RackTermsEdgesTest::blocks);
        Due.holds("The cells at the offset ROWS are the disks' LOGS", RackTermsEdgesTest::logs);
        Due.holds("in a spare 0, or p + 1 of the position it stands for", RackTermsEdgesTest::tagsOfSpares);
        Due.holds("p + 1 of the position it stands for", RackTermsEdgesTest::tagsOfOnePosition);
        Due.holds("in a log 0, or 1 + 8 * s + j", RackTermsEdgesTest::tagsOfLogs);
        Due.holds("what fails is lost from then on, also when its disk is replaced", RackTermsEdgesTest::lostTillRebuilt);
        Due.holds("A spare is FREE if it is no place (blank or not)", RackTermsEdgesTest::freeSpares);
        Due.holds("A cell that is a place and not valid is SPOILT", RackTermsEdgesTest::spoiltCells);
        Due.holds("otherwise the xor of the other cells of the stripe", RackTermsEdgesTest::reckoned);
        Due.holds("if it is lost: ... (1 write). If parity is lost: ... (1 write). Otherwise ... (4 writes)", RackTermsEdgesTest::writesOfABlock);
        Due.holds("with PP the xor of the other data, as they are read", RackTermsEdgesTest::othersAsTheyAreRead);
        Due.holds("a loss that was told while it was off counts from here on", RackTermsEdgesTest::lossToldWhileOff);
        Due.holds("home, if its disk is live and its cell not blank; otherwise the first spare", RackTermsEdgesTest::placesFound);
        Due.holds("for each live disk in turn whose log is valid with a tag above 0", RackTermsEdgesTest::logsAtAnOpening);
        Due.holds("if parity's place of stripe s lies on that disk", RackTermsEdgesTest::logsOfSpares);
        Due.holds("parity becomes the log's bytes xor those", RackTermsEdgesTest::noHoles);
        Due.holds("each free spare on a live disk that is valid with a tag above 0", RackTermsEdgesTest::sparesAtAnOpening);
        Due.holds("If power is lost in between, it is off again", RackTermsEdgesTest::powerInAnOpening);
        Due.holds("they are those that are committed, nothing is changed", RackTermsEdgesTest::bytesAtAnOpening);
        Due.holds("that is lost, whose home's disk is failed, and whose row has a free spare on a live disk", RackTermsEdgesTest::rebuilding);
        Due.holds("and the first such spare written (1 write)", RackTermsEdgesTest::rebuildingToTheFirstSpare);
        Due.holds("whose home's disk is live and home cell blank", RackTermsEdgesTest::copyingBack);
        Due.holds("if it had a spare, that becomes 0s with tag 0 (1 write)", RackTermsEdgesTest::copyingToTheLast);
        Due.holds("it is read (reckoned, if it is lost) and written there", RackTermsEdgesTest::copyingWhatIsRead);
        Due.holds("0 at first and from the beginning of an opening on; behind the last one 0", RackTermsEdgesTest::scrubbing);
        Due.holds("it goes on with each step, ahead of it, also with one that power ends", RackTermsEdgesTest::scrubbingTheLastStripe);
        Due.holds("if none is lost, and the xor of all is not 0, HOLES is 1 more (0 at first; it stays while it is off)", RackTermsEdgesTest::holes);
        Due.holds("EVENTS that would leave two cells of one stripe lost or spoilt are REFUSED", RackTermsEdgesTest::refusedEvents);
        Due.holds("two cells of one stripe", RackTermsEdgesTest::refusedByStripes);
        Due.holds("while it is off, the places are those that opening would find", RackTermsEdgesTest::refusedWhileOff);
        Due.end();
    }
}
