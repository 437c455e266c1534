import java.util.zip.CRC32C;

/** The promises about the rack: 1, 11 to 19, 21 and 22. */
public final class RackPromisesTest {
    private static void newOne(int disks, int width, int rows, int... due) {
        DiskPool pool = new DiskPool(disks, width, rows);
        String what = "new " + disks + " " + width + " " + rows;
        int[] looks = {10, 9, 7, 5, 4, 13};
        for (int i = 0; i < looks.length; i++) {
            int which = looks[i];
            Due.due(what + ": look(" + which + ")", due[i], () -> pool.look(which));
        }
    }

    private static void promise1() {
        newOne(6, 3, 48, 6, 3, 48, 96, 144, 37);
        newOne(16, 5, 64, 16, 5, 192, 768, 64, 709);
        newOne(5, 3, 48, 8, 3, 96, 192, 96, 133);
        newOne(17, 3, 48, 8, 3, 96, 192, 96, 133);
        newOne(6, 5, 48, 6, 5, 48, 192, 48, 133);
        newOne(6, 6, 48, 6, 3, 48, 96, 144, 37);
        newOne(9, 8, 64, 9, 8, 64, 448, 64, 389);
        newOne(8, 8, 50, 8, 3, 100, 200, 100, 141);
        newOne(0, 8, 47, 8, 3, 96, 192, 96, 133);
        newOne(12, 2, 65, 12, 3, 144, 288, 144, 229);
        newOne(12, 9, 63, 12, 3, 189, 378, 189, 319);
        newOne(Integer.MIN_VALUE, Integer.MAX_VALUE, Integer.MIN_VALUE, 8, 3, 96, 192, 96, 133);
        Due.looks("new", new DiskPool(6, 3, 48), 1, 0, 0, 0, 144, 96, 0, 48, 0, 3, 6, 6, 0, 37, 63, 0, 0, 0, 0, 0);
        DiskPool pool = new DiskPool(7, 3, 48);
        Due.due("the root", 2, () -> pool.node(0, 0));
        Due.due("without bytes", 0, () -> pool.node(0, 1) + pool.node(0, 2));
        Due.due("no spare to rebuild to", 0, pool::rebuild);
        Due.due("nothing to copy", 0, pool::copyBack);
        for (int s = 0; s < 96; s++) Due.due("nothing to scrub", 0, pool::scrub);
        Due.due("no hole", 0, () -> pool.look(6));
        pool.off();
        Due.due("opens", true, pool.open());
        Due.looks("opened", pool, 1, 0, 0, 0, 48, 192, 0, 96, 0, 3, 7, 7, 0, 133, 63, 0, 0, 0, 0, 0);
    }

    private static void promise11() {
        DiskPool pool = Pools.withFile();
        Due.due("below 0", Due.ARGUMENT, () -> { pool.lose(-1); return 0; });
        pool.lose(1);
        pool.lose(0);
        Due.due("never", 4, pool::sync);
        pool.cut(1, 2);
        pool.lose(1);
        pool.lose(17);
        Due.due("one block takes 16 writes", 1, pool::sync);
        pool.cut(1, 3);
        Due.due("the 17th", -9, pool::sync);
        Due.due("that was not done", 56, () -> pool.look(1));
        pool.open();
        Due.due("on", 1, () -> pool.look(0));
        pool.lose(1);
        pool.off();
        pool.open();
        pool.cut(1, 4);
        Due.due("forgotten", 1, pool::sync);
        pool.lose(Integer.MAX_VALUE);
        pool.cut(1, 5);
        Due.due("far away", 1, pool::sync);
        whileOff();
    }

    private static void whileOff() {
        DiskPool pool = Pools.withFile();
        pool.lose(25);
        Due.due("lost", -9, pool::sync);
        pool.lose(3);
        pool.lose(4);
        Due.due("lost in the opening", false, pool.open());
        Due.due("three more were done", 24 + 3, () -> pool.look(1));
        Due.due("opened", true, pool.open());
        DiskPool other = Pools.withFile();
        other.off();
        other.lose(2);
        other.open();
        other.make(0, 7, false);
        Due.due("it counts on behind the opening", -9, other::sync);
        Due.due("one was done", 1, () -> other.look(1));
    }

    private static void promise12() {
        DiskPool pool = Pools.withFile();
        pool.feed(1, 5);
        pool.off();
        Due.due("off", 0, () -> pool.look(0));
        Due.due("off already", Due.STATE, () -> { pool.off(); return 0; });
        for (int what = 13; what < 20; what++) {
            int which = what;
            Due.due("look(" + what + ")", -1, () -> pool.look(which));
        }
        Due.due("the tape stays", 1, () -> pool.look(12));
        Due.due("no step", Due.STATE, pool::rebuild);
        Due.due("no step", Due.STATE, pool::copyBack);
        Due.due("no step", Due.STATE, pool::scrub);
        Due.due("no commit", Due.STATE, pool::sync);
        pool.open();
        Due.due("what was not committed is gone", -1, () -> pool.find(0, 7));
    }

    private static void promise13() {
        DiskPool pool = Pools.committed();
        Due.due("on already", Due.STATE, () -> Due.one(pool.open()));
        pool.off();
        Due.due("opens", true, pool.open());
        Due.due("without a write", 40, () -> pool.look(1));
        Due.due("on", 1, () -> pool.look(0));
        Due.due("it is there", 77, () -> pool.read(1, 0));
        // All writes that the commit did, and those of the opening: the log's, and 20 of the journal.
        int[][] cases = {{21, 20, 0}, {22, 21, 2}, {23, 22, 2}, {24, 23, 2}, {25, 24, 0}, {40, 39, 2}};
        for (int[] c : cases) {
            DiskPool other = Pools.withFile();
            other.lose(c[0]);
            other.sync();
            Due.due("done at " + c[0], c[1], () -> other.look(1));
            Due.due("opens", true, other.open());
            int journal = c[0] < 38 ? 20 : 0;
            Due.due("done by the opening at " + c[0], c[1] + c[2] + journal, () -> other.look(1));
            Due.due("it is there", 77, () -> other.read(1, 0));
            Due.due("nothing strayed", 0, () -> other.look(19));
            for (int s = 0; s < 48; s++) Due.due("nothing to scrub", 0, other::scrub);
            Due.due("no hole", 0, () -> other.look(6));
        }
        logsWithoutDisks();
        lostAtTheEndOfOpening();
        atEveryWriteOfOpening();
    }

    /** Block 0 lies on disk 0, block 1 on disk 1, their parity on disk 2; power goes between both. */
    private static void logsWithoutDisks() {
        for (int disk = 0; disk < 6; disk++) {
            for (int n = 1; n <= 40; n++) {
                DiskPool pool = Pools.withFile();
                pool.lose(n);
                pool.sync();
                int failed = disk;
                int at = n;
                Due.due("fails while it is off", true, pool.fail(failed));
                Due.due("opens", true, pool.open());
                boolean there = pool.find(0, 7) == 1;
                Due.due("at " + n + " without " + disk, there ? 1 : 0, () -> pool.look(18));
                if (there) Due.due("at " + n + " without " + disk, 77, () -> pool.read(1, 0));
                if (at <= 18) Due.due("too early", false, there);
                if (at > 19) Due.due("it must be there", true, there);
                Due.due("nothing strayed", 0, () -> pool.look(19));
            }
        }
        DiskPool pool = Pools.withFile();
        pool.lose(3);
        pool.sync();
        pool.fail(2);
        pool.open();
        Due.due("the log went with its disk", 2, () -> pool.look(1));
        DiskPool other = Pools.withFile();
        other.lose(3);
        other.sync();
        other.fail(1);
        other.open();
        Due.due("without column j the log only becomes 0s", 3, () -> other.look(1));
    }

    /** Power goes at the last thing that an opening has to do. */
    private static void lostAtTheEndOfOpening() {
        for (int n = 1; n <= 2; n++) {
            DiskPool pool = Pools.withFile();
            pool.lose(3);
            pool.sync();
            pool.lose(n);
            Due.due("lost at a log", false, pool.open());
            Due.due("off", 0, () -> pool.look(0));
            Due.due("then it opens", true, pool.open());
        }
        DiskPool pool = Pools.committed();
        pool.fail(0);
        pool.rebuild();
        pool.replace(0);
        pool.lose(2);
        pool.copyBack();
        pool.lose(1);
        Due.due("lost at a spare", false, pool.open());
        Due.due("off", 0, () -> pool.look(0));
        Due.due("then it opens", true, pool.open());
        Due.due("home", 0, () -> pool.place(0, 0));
    }

    private static void atEveryWriteOfOpening() {
        for (int n = 1; n <= 22; n++) {
            DiskPool pool = Pools.withFile();
            pool.lose(23);
            pool.sync();
            pool.lose(n);
            Due.due("lost in the opening at " + n, false, pool.open());
            Due.due("off again", 0, () -> pool.look(0));
            Due.due("opens then", true, pool.open());
            Due.due("it is there", 77, () -> pool.read(1, 0));
            Due.due("the sequence", 1, () -> pool.look(18));
        }
    }

    private static void promise14() {
        DiskPool pool = Pools.committed();
        Due.due("none", Due.ARGUMENT, () -> Due.one(pool.fail(6)));
        Due.due("none", Due.ARGUMENT, () -> Due.one(pool.fail(-1)));
        Due.due("fails", true, pool.fail(2));
        Due.due("is failed", false, pool.fail(2));
        Due.due("a half of the rows", 24, () -> pool.look(2));
        Due.due("live ones", 5, () -> pool.look(11));
        Due.due("and a half of the spares", 120, () -> pool.look(4));
        Due.due("refused", false, pool.fail(3));
        Due.due("refused, so nothing is lost", 24, () -> pool.look(2));
        Due.due("rebuilt", 24, () -> Pools.steps(pool::rebuild));
        Due.due("not refused then", true, pool.fail(3));
        Due.due("rebuilt", pool.look(2), () -> Pools.steps(pool::rebuild));
        Due.due("none is lost", 0, () -> pool.look(2));
        Due.due("a third one", true, pool.fail(0));
        Pools.steps(pool::rebuild);
        Due.due("no spare is free", 0, () -> pool.look(4));
        Due.due("a fourth one", true, pool.fail(5));
        Due.due("one of each stripe", 48, () -> pool.look(2));
        Due.due("nothing to rebuild to", 0, pool::rebuild);
        Due.due("no fifth one", false, pool.fail(1));
        Due.due("all is there", 77, () -> pool.read(1, 0));
        Due.due("nothing strayed", 0, () -> pool.look(19));
        pool.feed(1, 78);
        pool.write(1, 0);
        Due.due("still to be written", 1, pool::sync);
        Due.due("and read", 78, () -> pool.read(1, 0));
        pool.off();
        Due.due("refused while it is off", false, pool.fail(4));
        pool.open();
        Due.due("and there", 78, () -> pool.read(1, 0));
    }

    private static void promise15() {
        DiskPool pool = Pools.committed();
        Due.due("none", Due.ARGUMENT, () -> Due.one(pool.replace(6)));
        Due.due("none", Due.ARGUMENT, () -> Due.one(pool.replace(-1)));
        Due.due("live", false, pool.replace(1));
        pool.fail(1);
        Due.due("replaced", true, pool.replace(1));
        Due.due("live now", false, pool.replace(1));
        Due.due("still lost", 24, () -> pool.look(2));
        Due.due("but live", 6, () -> pool.look(11));
        Due.due("its spares are free", 144, () -> pool.look(4));
        Due.due("nothing to rebuild", 0, pool::rebuild);
        Due.due("another is refused", false, pool.fail(2));
        pool.off();
        pool.open();
        Due.due("still lost", 24, () -> pool.look(2));
        Due.due("all is there", 77, () -> pool.read(1, 0));
        pool.off();
        Due.due("fails while it is off", true, pool.fail(1));
        Due.due("replaced while it is off", true, pool.replace(1));
        Due.due("still lost", 24, () -> pool.look(2));
    }

    private static long forged(int change) {
        CRC32C a = new CRC32C();
        CRC32C b = new CRC32C();
        byte[] bytes = new byte[66];
        a.update(bytes);
        for (int i = 0; i < 4; i++) bytes[62 + i] = (byte) (change >> 8 * i);
        b.update(bytes);
        return change & 0xFFFFFFFFL | (a.getValue() ^ b.getValue()) << 32;
    }

    private static void promise16() {
        DiskPool pool = Pools.committed();
        int[][] wrong = {{-1, 0, 0, 1}, {6, 0, 0, 1}, {0, -1, 0, 1}, {0, 48, 0, 1}, {0, 0, 0, 0}, {0, 0, 0, 9},
            {0, 0, -1, 1}, {0, 0, 70, 1}, {0, 0, 63, 8}};
        for (int[] w : wrong) Due.due("wrong", Due.ARGUMENT, () -> Due.one(pool.spoil(w[0], w[1], w[2], w[3], 1)));
        Due.due("a mask of 0", Due.ARGUMENT, () -> Due.one(pool.spoil(0, 0, 0, 8, 0)));
        Due.due("a mask of 0", Due.ARGUMENT, () -> Due.one(pool.spoil(0, 0, 0, 2, 65536)));
        Due.due("spoilt", true, pool.spoil(0, 0, 62, 8, Long.MIN_VALUE));
        Due.due("one", 1, () -> pool.look(3));
        Due.due("another of the stripe", false, pool.spoil(2, 0, 0, 1, 1));
        Due.due("one of another stripe", true, pool.spoil(0, 1, 0, 1, 255));
        Due.due("a free spare", false, pool.spoil(3, 0, 0, 1, 1));
        Due.due("the same once more", true, pool.spoil(0, 0, 62, 8, Long.MIN_VALUE));
        Due.due("so it is valid", 1, () -> pool.look(3));
        Due.due("refused: a spoilt one beside it", false, pool.fail(1));
        Due.due("one of just that stripe", true, pool.fail(0));
        Due.due("none is left", 0, () -> pool.look(3));
        Due.due("it is failed", false, pool.spoil(0, 2, 0, 1, 1));
        pool.replace(0);
        Due.due("it is blank", false, pool.spoil(0, 2, 0, 1, 1));
        Due.due("one is lost", false, pool.spoil(1, 0, 0, 1, 1));
        pool.off();
        Due.due("off", false, pool.spoil(4, 3, 0, 1, 1));
        Due.due("off, wrong", Due.ARGUMENT, () -> Due.one(pool.spoil(4, 3, 0, 1, 0)));
        forging();
        mendedByWrites();
        spoiltSpare();
    }

    private static void forging() {
        DiskPool pool = Pools.committed();
        for (int change = 1; change != 0; change <<= 1) {
            long mask = forged(change);
            Due.due("the check would be right", false, pool.spoil(0, 0, 62, 8, mask));
        }
        Due.due("a half of it", true, pool.spoil(0, 0, 62, 4, 0x1234567L));
        Due.due("a half of it is no other half", true, pool.spoil(0, 0, 66, 4, 1));
        Due.due("which goes", true, pool.spoil(0, 0, 66, 4, 1));
        Due.due("the other half", false, pool.spoil(0, 0, 66, 4, forged(0x1234567) >>> 32));
        Due.due("spoilt still", 1, () -> pool.look(3));
        Due.due("the check of the log is no matter", 0, () -> pool.look(2));
        Due.due("the first half once more", true, pool.spoil(0, 0, 62, 4, 0x1234567L));
        Due.due("valid", 0, () -> pool.look(3));
        Due.due("tags are checked too", true, pool.spoil(0, 0, 64, 2, 3));
        Due.due("spoilt", 1, () -> pool.look(3));
    }

    private static void mendedByWrites() {
        DiskPool pool = Pools.withFile();
        Due.due("the head", true, pool.spoil(0, 0, 5, 1, 1));
        Due.due("four writes each", 40, () -> pool.sync() * 10);
        Due.due("mended", 0, () -> pool.look(3));
        Due.due("the parity of the head", true, pool.spoil(2, 0, 5, 1, 1));
        pool.cut(1, 0);
        pool.sync();
        Due.due("mended", 0, () -> pool.look(3));
        DiskPool other = Pools.committed();
        // Block 60 is column 0 of stripe 30: row 30, with the first step, 1.
        Due.due("the file's block", true, other.spoil(0, 30, 0, 8, 99));
        Due.due("reckoned", 77, () -> other.read(1, 0));
        other.off();
        other.open();
        Due.due("spoilt still", 1, () -> other.look(3));
        Due.due("reckoned", 77, () -> other.read(1, 0));
        other.feed(1, 9);
        other.write(1, 0);
        other.sync();
        Due.due("mended", 0, () -> other.look(3));
        Due.due("written", 9, () -> other.read(1, 0));
    }

    private static void spoiltSpare() {
        DiskPool pool = Pools.committed();
        pool.fail(0);
        pool.rebuild();
        Due.due("its place", 3, () -> pool.place(0, 0));
        Due.due("spoilt there", true, pool.spoil(3, 0, 0, 1, 1));
        Due.due("spoilt", 1, () -> pool.look(3));
        Due.due("its place still", 3, () -> pool.place(0, 0));
        Due.due("lost are", 23, () -> pool.look(2));
        pool.off();
        Due.due("opening would not find it", -1, () -> pool.place(0, 0));
        Due.due("lost are", 24, () -> pool.look(2));
        Due.due("none is spoilt", 0, () -> pool.look(3));
        Due.due("free again", 120, () -> pool.look(4));
        pool.open();
        Due.due("lost are", 24, () -> pool.look(2));
        int writes = pool.look(1);
        Due.due("rebuilt", 1, pool::rebuild);
        Due.due("by one write", writes + 1, () -> pool.look(1));
        Due.due("its place again", 3, () -> pool.place(0, 0));
        Due.due("valid", 0, () -> pool.look(3));
    }

    private static void promise17() {
        DiskPool pool = Pools.committed();
        Due.due("nothing to do", 0, pool::rebuild);
        pool.fail(0);
        Due.due("the first", 1, pool::rebuild);
        Due.due("one write", 41, () -> pool.look(1));
        Due.due("onto the first spare", 3, () -> pool.place(0, 0));
        // In row 1 the step is 5: position 1 lies on disk 0, the spares on the disks 4, 3 and 2.
        Due.due("lost", -1, () -> pool.place(1, 1));
        pool.lose(1);
        Due.due("power lost", -9, pool::rebuild);
        Due.due("off", Due.STATE, pool::rebuild);
        Due.due("not done", -1, () -> pool.place(1, 1));
        Due.due("it is found where it is", 3, () -> pool.place(0, 0));
        pool.open();
        Due.due("it is found where it is", 3, () -> pool.place(0, 0));
        Due.due("the second", 1, pool::rebuild);
        Due.due("onto the first spare", 4, () -> pool.place(1, 1));
        Due.due("the others", 22, () -> Pools.steps(pool::rebuild));
        Due.due("none is lost", 0, () -> pool.look(2));
        Due.due("so many are free", 120 - 24, () -> pool.look(4));
        Due.due("nothing to do", 0, pool::rebuild);
        Due.due("all is there", 77, () -> pool.read(1, 0));
        Due.due("nothing strayed", 0, () -> pool.look(19));
        for (int s = 0; s < 48; s++) Due.due("nothing to scrub", 0, pool::scrub);
        Due.due("no hole", 0, () -> pool.look(6));
        pool.fail(3);
        Due.due("lost again, with its spare", -1, () -> pool.place(0, 0));
        Due.due("rebuilt again", 1, pool::rebuild);
        Due.due("onto the next spare", 4, () -> pool.place(0, 0));
        Pools.steps(pool::rebuild);
        pool.replace(0);
        Due.due("another fails", true, pool.fail(4));
        Pools.steps(pool::rebuild);
        Due.due("a home that is live is not rebuilt", -1, () -> pool.place(0, 0));
        Due.due("it is copied back", 1, pool::copyBack);
        Due.due("home", 0, () -> pool.place(0, 0));
    }

    private static void promise18() {
        DiskPool pool = Pools.committed();
        Due.due("nothing to do", 0, pool::copyBack);
        pool.fail(0);
        Due.due("nothing to do without the disk", 0, pool::copyBack);
        pool.rebuild();
        pool.replace(0);
        Due.due("its spare is its place", 3, () -> pool.place(0, 0));
        Due.due("the first", 1, pool::copyBack);
        Due.due("two writes", 43, () -> pool.look(1));
        Due.due("home", 0, () -> pool.place(0, 0));
        Due.due("the spare is free", 144, () -> pool.look(4));
        Due.due("the next is lost", -1, () -> pool.place(1, 1));
        Due.due("and is reckoned", 1, pool::copyBack);
        Due.due("one write", 44, () -> pool.look(1));
        Due.due("home", 0, () -> pool.place(1, 1));
        Due.due("the others", 22, () -> Pools.steps(pool::copyBack));
        Due.due("none is lost", 0, () -> pool.look(2));
        Due.due("all is there", 77, () -> pool.read(1, 0));
        Due.due("nothing strayed", 0, () -> pool.look(19));
        for (int s = 0; s < 48; s++) Due.due("nothing to scrub", 0, pool::scrub);
        Due.due("no hole", 0, () -> pool.look(6));
        copyingLost();
    }

    private static void copyingLost() {
        DiskPool pool = Pools.committed();
        pool.fail(0);
        Pools.steps(pool::rebuild);
        pool.replace(0);
        int writes = pool.look(1);
        pool.lose(1);
        Due.due("lost at the first write", -9, pool::copyBack);
        Due.due("off", Due.STATE, pool::copyBack);
        pool.open();
        Due.due("no write at all", writes, () -> pool.look(1));
        Due.due("still there", 3, () -> pool.place(0, 0));
        pool.lose(2);
        Due.due("lost at the second", -9, pool::copyBack);
        Due.due("home is found", 0, () -> pool.place(0, 0));
        Due.due("the spare is free", 144 - 23, () -> pool.look(4));
        pool.open();
        Due.due("opening makes it 0s", writes + 2, () -> pool.look(1));
        pool.off();
        pool.open();
        Due.due("once", writes + 2, () -> pool.look(1));
        pool.lose(2);
        Due.due("lost at the second", -9, pool::copyBack);
        Due.due("the disk fails again", true, pool.fail(0));
        Due.due("what was copied is where it was", 4, () -> pool.place(1, 1));
        Due.due("what was cleared is lost", -1, () -> pool.place(0, 0));
        pool.open();
        Due.due("nothing is to be cleared", writes + 3, () -> pool.look(1));
        Due.due("all is there", 77, () -> pool.read(1, 0));
    }

    private static void promise19() {
        DiskPool pool = Pools.committed();
        Due.due("nothing", 0, pool::scrub);
        Due.due("next", 1, () -> pool.look(8));
        pool.spoil(2, 0, 0, 1, 1);
        pool.spoil(1, 1, 69, 1, 1);
        Due.due("mended", 1, pool::scrub);
        Due.due("by one write", 41, () -> pool.look(1));
        Due.due("next", 2, () -> pool.look(8));
        for (int s = 2; s < 48; s++) Due.due("nothing", 0, pool::scrub);
        Due.due("from the beginning", 0, () -> pool.look(8));
        Due.due("one is left", 1, () -> pool.look(3));
        pool.lose(1);
        Due.due("lost", -9, pool::scrub);
        Due.due("off", Due.STATE, pool::scrub);
        Due.due("it went on all the same", 1, () -> pool.look(8));
        pool.open();
        Due.due("anew", 0, () -> pool.look(8));
        Due.due("spoilt still", 1, () -> pool.look(3));
        Due.due("mended", 1, pool::scrub);
        Due.due("none", 0, () -> pool.look(3));
        pool.fail(1);
        for (int s = 0; s < 48; s++) Due.due("what is lost is no hole", 0, pool::scrub);
        Due.due("no hole", 0, () -> pool.look(6));
        DiskPool other = Pools.withFile();
        other.scrub();
        other.lose(25);
        other.sync();
        Due.due("as it was", 1, () -> other.look(8));
        other.lose(1);
        other.open();
        Due.due("from the beginning of an opening on", 0, () -> other.look(8));
    }

    private static void promise21() {
        DiskPool pool = new DiskPool(8, 3, 48);
        // The steps are 1, 3, 5, 7 in turn.
        for (int row = 0; row < 48; row++) {
            for (int position = 0; position < 6; position++) {
                int r = row;
                int p = position;
                int step = 1 + 2 * (row % 4);
                Due.due("place(" + row + ", " + position + ")", (row + position * step) % 8, () -> pool.place(r, p));
            }
        }
        DiskPool nine = new DiskPool(9, 4, 48);
        int[] steps = {1, 2, 4, 5, 7, 8};
        for (int row = 0; row < 48; row++) {
            int r = row;
            Due.due("nine: place(" + row + ", 5)", (row + 5 * steps[row % 6]) % 9, () -> nine.place(r, 5));
        }
        Due.due("no row", Due.ARGUMENT, () -> pool.place(-1, 0));
        Due.due("no row", Due.ARGUMENT, () -> pool.place(48, 0));
        Due.due("no position", Due.ARGUMENT, () -> pool.place(0, -1));
        Due.due("a spare", Due.ARGUMENT, () -> pool.place(0, 6));
        pool.fail(4);
        Due.due("lost", -1, () -> pool.place(0, 4));
        pool.off();
        Due.due("lost", -1, () -> pool.place(0, 4));
        Due.due("there", 5, () -> pool.place(0, 5));
        pool.fail(5);
        Due.due("refused, so there", 5, () -> pool.place(0, 5));
        pool.open();
        pool.rebuild();
        Due.due("on a spare", 6, () -> pool.place(0, 4));
        pool.off();
        Due.due("on a spare", 6, () -> pool.place(0, 4));
    }

    private static void promise22() {
        DiskPool pool = new DiskPool(6, 3, 48);
        Due.due("none", Due.ARGUMENT, () -> pool.look(-1));
        Due.due("none", Due.ARGUMENT, () -> pool.look(20));
        pool.make(0, 1, true);
        pool.make(1, 2, false);
        pool.feed(5, 1);
        pool.write(2, 0);
        pool.feed(4, 1);
        pool.find(0, 1);
        pool.read(2, 0);
        pool.scrub();
        Due.looks("made", pool, 1, 0, 0, 0, 144, 96, 0, 48, 1, 3, 6, 6, 4, 34, 61, 6, 3, 0, 0, 0);
        pool.sync();
        Due.looks("committed", pool, 1, 56, 0, 0, 144, 96, 0, 48, 1, 3, 6, 6, 4, 34, 61, 0, 0, 0, 1, 0);
        pool.spoil(1, 0, 0, 1, 1);
        pool.fail(1);
        pool.rebuild();
        pool.spoil(5, 4, 0, 1, 1);
        pool.remove(1, 2);
        Due.looks("failed", pool, 1, 57, 23, 1, 119, 96, 0, 48, 1, 3, 6, 5, 4, 35, 62, 3, 1, 0, 1, 0);
        pool.off();
        Due.looks("off", pool, 0, 57, 23, 1, 119, 96, 0, 48, 1, 3, 6, 5, 4, -1, -1, -1, -1, -1, -1, -1);
        Due.due("none while it is off", Due.ARGUMENT, () -> pool.look(20));
        pool.open();
        Due.looks("opened", pool, 1, 57, 23, 1, 119, 96, 0, 48, 0, 3, 6, 5, 4, 34, 61, 0, 0, 0, 1, 0);
    }

    public static void main(String[] args) {
        promise1();
        promise11();
        promise12();
        promise13();
        promise14();
        promise15();
        promise16();
        promise17();
        promise18();
        promise19();
        promise21();
        promise22();
        Due.end();
    }
}
