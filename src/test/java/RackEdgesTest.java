/** The promises 1, 11 to 19, 21 and 22: each sentence that names a boundary. */
public final class RackEdgesTest {
    private static final int LEAST = Integer.MIN_VALUE;
    private static final int MOST = Integer.MAX_VALUE;

    private static void made(int disks, int width, int rows, int... due) {
        DiskPool pool = new DiskPool(disks, width, rows);
        String what = "new DiskPool(" + disks + ", " + width + ", " + rows + ")";
        Due.due(what + ": disks", due[0], () -> pool.look(10));
        Due.due(what + ": width", due[1], () -> pool.look(9));
        Due.due(what + ": stripes", due[2] * ((due[0] - 1) / due[1]), () -> pool.look(7));
    }

    // Promise 1

    private static void disks() {
        for (int disks = 6; disks <= 16; disks++) made(disks, 3, 48, disks, 3, 48);
        for (int disks : new int[] {5, 17, 0, -1, -6, LEAST, MOST}) made(disks, 3, 48, 8, 3, 48);
    }

    private static void widths() {
        for (int width = 3; width <= 8; width++) made(16, width, 48, 16, width, 48);
        for (int width : new int[] {2, 9, 0, -1, -3, LEAST, MOST}) made(16, width, 48, 16, 3, 48);
        made(9, 8, 48, 9, 8, 48);
        made(8, 8, 48, 8, 3, 48);
        made(8, 7, 48, 8, 7, 48);
        made(6, 5, 48, 6, 5, 48);
        made(6, 6, 48, 6, 3, 48);
        made(6, 7, 48, 6, 3, 48);
        // The disks that there are then are 8.
        made(5, 7, 48, 8, 7, 48);
        made(17, 8, 48, 8, 3, 48);
    }

    private static void rows() {
        for (int rows = 48; rows <= 64; rows++) made(6, 3, rows, 6, 3, rows);
        for (int rows : new int[] {47, 65, 0, -1, -48, LEAST, MOST}) made(6, 3, rows, 6, 3, 48);
        made(LEAST, MOST, LEAST, 8, 3, 48);
    }

    private static void allIsWritten() {
        for (int[] s : new int[][] {{6, 3, 48}, {16, 8, 64}, {16, 3, 64}, {9, 8, 48}}) {
            DiskPool pool = new DiskPool(s[0], s[1], s[2]);
            Due.due("no write is counted", 0, () -> pool.look(1));
            Due.due("on", 1, () -> pool.look(0));
            Due.due("none is lost", 0, () -> pool.look(2));
            Due.due("none is spoilt", 0, () -> pool.look(3));
            Due.due("no home is blank", 0, pool::copyBack);
            Due.due("the root", 2, () -> pool.node(0, 0));
            Due.due("the map", pool.look(5) - 59, () -> pool.look(13));
            Due.due("nothing is changed", 0, () -> pool.look(15));
            Pools.reopen(pool);
            Due.due("the root is on the volume", 2, () -> pool.node(0, 0));
            Due.due("the map is on the volume", pool.look(5) - 59, () -> pool.look(13));
            Due.due("no write was to be done", 0, () -> pool.look(1));
        }
    }

    // Promise 11

    private static void theNthWrite() {
        for (int n = 1; n <= 16; n++) {
            DiskPool pool = Pools.committed();
            pool.cut(1, 2);
            pool.lose(n);
            int at = n;
            Due.due("lost at " + n, -9, pool::sync);
            Due.due("done", 40 + at - 1, () -> pool.look(1));
        }
        DiskPool pool = Pools.committed();
        pool.cut(1, 2);
        pool.lose(17);
        Due.due("one has 16 writes", 1, pool::sync);
        pool.fail(0);
        Due.due("the 17th is any cell's", -9, pool::rebuild);
        DiskPool far = Pools.withFile();
        far.lose(MOST);
        Due.due("far away", 4, far::sync);
    }

    private static void inPlaceOfWhatWasTold() {
        DiskPool pool = Pools.withFile();
        pool.lose(1);
        pool.lose(3);
        Due.due("the third", -9, pool::sync);
        Due.due("the third", 2, () -> pool.look(1));
        DiskPool sooner = Pools.withFile();
        sooner.lose(3);
        sooner.lose(1);
        Due.due("the first", -9, sooner::sync);
        Due.due("the first", 0, () -> sooner.look(1));
    }

    private static void neverForZero() {
        DiskPool pool = Pools.withFile();
        pool.lose(1);
        pool.lose(0);
        Due.due("never", 4, pool::sync);
        pool.off();
        pool.lose(1);
        pool.lose(0);
        Due.due("nor while it was off", true, pool.open());
        pool.cut(1, 2);
        Due.due("never", 1, pool::sync);
    }

    private static void forgottenWhenOff() {
        DiskPool pool = Pools.withFile();
        pool.lose(1);
        pool.off();
        Due.due("opens", true, pool.open());
        pool.make(0, 7, false);
        Due.due("forgotten", 3, pool::sync);
        DiskPool lost = Pools.withFile();
        lost.lose(3);
        lost.sync();
        lost.lose(1);
        Due.due("lost in an opening", false, lost.open());
        Due.due("forgotten then", true, lost.open());
    }

    private static void belowZero() {
        for (int n : new int[] {-1, LEAST}) {
            DiskPool pool = Pools.withFile();
            pool.lose(2);
            Due.refused("lose(" + n + ")", Due.ARGUMENT, pool, () -> { pool.lose(n); return 0; });
            Due.due("what was told stays", -9, pool::sync);
            Due.due("what was told stays", 1, () -> pool.look(1));
            Due.due("while it is off", Due.ARGUMENT, () -> { pool.lose(n); return 0; });
        }
    }

    // Promises 12 and 13

    private static void offAtOnce() {
        DiskPool pool = Pools.withFile();
        pool.off();
        Due.due("off", 0, () -> pool.look(0));
        Due.due("nothing was written", 0, () -> pool.look(1));
        Due.refused("off twice", Due.STATE, pool, () -> { pool.off(); return 0; });
        pool.open();
        pool.lose(1);
        pool.make(0, 1, false);
        pool.sync();
        Due.due("off since power was lost", Due.STATE, () -> { pool.off(); return 0; });
    }

    private static void opening() {
        DiskPool pool = Pools.withFile();
        Due.refused("on", Due.STATE, pool, () -> Due.one(pool.open()));
        pool.lose(3);
        pool.sync();
        pool.lose(1);
        Due.due("power was lost", false, pool.open());
        Due.due("off", 0, () -> pool.look(0));
        Due.due("opens", true, pool.open());
        Due.due("on", 1, () -> pool.look(0));
        Due.due("on twice", Due.STATE, () -> Due.one(pool.open()));
    }

    // Promises 14 and 15

    private static void failing() {
        for (int disks : new int[] {6, 16}) {
            DiskPool pool = new DiskPool(disks, 3, 48);
            for (int disk : new int[] {-1, disks, LEAST, MOST}) {
                Due.refused("fail(" + disk + ")", Due.ARGUMENT, pool, () -> Due.one(pool.fail(disk)));
            }
            Due.due("the last one", true, pool.fail(disks - 1));
            Due.refused("is failed", 0, pool, () -> Due.one(pool.fail(disks - 1)));
        }
        DiskPool pool = Pools.committed();
        pool.off();
        Due.due("while it is off", true, pool.fail(0));
        Due.refused("is failed", 0, pool, () -> Due.one(pool.fail(0)));
        Due.refused("refused", 0, pool, () -> Due.one(pool.fail(1)));
        Due.due("none", Due.ARGUMENT, () -> Due.one(pool.fail(6)));
        Due.due("no stripe has both", true, pool.fail(3));
        Due.due("so many are live", 4, () -> pool.look(11));
    }

    /** Once rebuilt, disk by disk, till there are no spares; then one more in each stripe. */
    private static void failingToTheLast() {
        DiskPool pool = Pools.committed();
        for (int disk = 0; disk < 3; disk++) {
            Due.due("fails", true, pool.fail(disk));
            Pools.steps(pool::rebuild);
            Due.due("none is lost", 0, () -> pool.look(2));
        }
        Due.due("no spare is free", 0, () -> pool.look(4));
        Due.due("the fourth", true, pool.fail(3));
        Due.due("one of each stripe", 48, () -> pool.look(2));
        Due.refused("no fifth", 0, pool, () -> Due.one(pool.fail(4)));
        Due.due("as it was", 77, () -> pool.read(1, 0));
    }

    private static void replacing() {
        DiskPool pool = Pools.committed();
        for (int disk : new int[] {-1, 6, LEAST, MOST}) {
            Due.due("replace(" + disk + ")", Due.ARGUMENT, () -> Due.one(pool.replace(disk)));
        }
        Due.refused("live", 0, pool, () -> Due.one(pool.replace(5)));
        pool.fail(5);
        Due.due("failed", true, pool.replace(5));
        Due.refused("live again", 0, pool, () -> Due.one(pool.replace(5)));
        pool.off();
        Due.due("live while it is off", false, pool.replace(5));
        pool.fail(5);
        Due.due("failed while it is off", true, pool.replace(5));
        Due.due("all are lost still", 24, () -> pool.look(2));
    }

    // Promise 16

    private static void spoilingNoSuchBytes() {
        int[][] wrong = {{-1, 0, 0, 1}, {6, 0, 0, 1}, {LEAST, 0, 0, 1}, {MOST, 0, 0, 1},
            {0, -1, 0, 1}, {0, 48, 0, 1}, {0, LEAST, 0, 1}, {0, MOST, 0, 1},
            {0, 0, 0, 0}, {0, 0, 0, 9}, {0, 0, 0, -1}, {0, 0, 0, LEAST}, {0, 0, 0, MOST},
            {0, 0, -1, 1}, {0, 0, 70, 1}, {0, 0, 69, 2}, {0, 0, 63, 8}, {0, 0, LEAST, 1}, {0, 0, MOST, 8}};
        DiskPool pool = Pools.committed();
        for (int[] w : wrong) {
            String what = "spoil(" + w[0] + ", " + w[1] + ", " + w[2] + ", " + w[3] + ")";
            Due.due(what, Due.ARGUMENT, () -> Due.one(pool.spoil(w[0], w[1], w[2], w[3], -1L)));
        }
        Due.due("nothing is spoilt", 0, () -> pool.look(3));
        int[][] right = {{0, 0, 0, 1}, {5, 5, 69, 1}, {5, 47, 62, 8}, {4, 4, 0, 8}, {1, 1, 68, 2}};
        for (int[] r : right) {
            String what = "spoil(" + r[0] + ", " + r[1] + ", " + r[2] + ", " + r[3] + ")";
            Due.due(what, true, pool.spoil(r[0], r[1], r[2], r[3], 1L));
        }
        Due.due("each is spoilt", 5, () -> pool.look(3));
    }

    /** What is xored in one call is taken back byte by byte. */
    private static void lowestFirst() {
        DiskPool pool = Pools.committed();
        for (int at : new int[] {0, 3, 7, 62}) {
            Due.due("eight bytes at " + at, true, pool.spoil(0, 0, at, 8, 0x1122334455667788L));
            for (int i = 0; i < 8; i++) {
                Due.due("spoilt", 1, () -> pool.look(3));
                Due.due("byte " + i, true, pool.spoil(0, 0, at + i, 1, 0x88 - 0x11 * i));
            }
            Due.due("valid", 0, () -> pool.look(3));
        }
    }

    private static void masksOf0() {
        DiskPool pool = Pools.committed();
        Due.refused("0", Due.ARGUMENT, pool, () -> Due.one(pool.spoil(0, 0, 0, 8, 0)));
        for (int n = 1; n <= 7; n++) {
            int many = n;
            long above = 1L << 8 * n;
            Due.due("above " + n, Due.ARGUMENT, () -> Due.one(pool.spoil(0, 0, 0, many, above)));
            Due.due("the highest of " + n, true, pool.spoil(0, 0, 0, many, above >>> 1));
            Due.due("and back", true, pool.spoil(0, 0, 0, many, above | above >>> 1));
            Due.due("what is above is no matter", 0, () -> pool.look(3));
        }
        Due.due("the highest of 8", true, pool.spoil(0, 0, 0, 8, Long.MIN_VALUE));
        pool.off();
        Due.due("0 while it is off", Due.ARGUMENT, () -> Due.one(pool.spoil(0, 0, 0, 8, 0)));
    }

    private static void spoilingNoPlace() {
        DiskPool pool = Pools.committed();
        Due.refused("a free spare", 0, pool, () -> Due.one(pool.spoil(3, 0, 0, 1, 1)));
        pool.fail(0);
        Due.refused("failed", 0, pool, () -> Due.one(pool.spoil(0, 0, 0, 1, 1)));
        pool.rebuild();
        pool.replace(0);
        Due.refused("blank", 0, pool, () -> Due.one(pool.spoil(0, 0, 0, 1, 1)));
        Due.due("the spare that is its place", true, pool.spoil(3, 0, 0, 1, 1));
        DiskPool off = Pools.committed();
        off.off();
        Due.refused("off", 0, off, () -> Due.one(off.spoil(0, 0, 0, 1, 1)));
    }

    private static void spoilingTwoOfAStripe() {
        DiskPool pool = Pools.committed();
        pool.spoil(0, 0, 0, 1, 1);
        Due.refused("column 1", 0, pool, () -> Due.one(pool.spoil(1, 0, 0, 1, 1)));
        Due.refused("parity", 0, pool, () -> Due.one(pool.spoil(2, 0, 0, 1, 1)));
        Due.due("the same one", true, pool.spoil(0, 0, 1, 1, 1));
        Due.due("back", true, pool.spoil(0, 0, 0, 2, 0x0101));
        Due.due("none is spoilt", 0, () -> pool.look(3));
        Due.due("now column 1", true, pool.spoil(1, 0, 0, 1, 1));
        pool.scrub();
        Due.due("mended, so parity", true, pool.spoil(2, 0, 0, 1, 1));
        pool.fail(2);
        Due.due("lost, so not column 0", false, pool.spoil(0, 0, 0, 1, 1));
    }

    /** A word of the code that the check is: xored to any valid cell it leaves the check right. */
    private static void validWithOtherBytes() {
        long word = 0;
        int rest = 1;
        for (int i = 0; i < 32; i++) rest = rest >>> 1 ^ ((rest & 1) == 1 ? 0x82F63B78 : 0);
        // The lowest bit of byte 62 passes through four bytes, so through 32 steps.
        word = 1L | (rest & 0xFFFFFFFFL) << 32;
        DiskPool pool = Pools.committed();
        long whole = word;
        Due.refused("the whole word", 0, pool, () -> Due.one(pool.spoil(0, 0, 62, 8, whole)));
        Due.due("its lower half", true, pool.spoil(0, 0, 62, 4, word));
        Due.refused("its upper half behind it", 0, pool, () -> Due.one(pool.spoil(0, 0, 66, 4, whole >>> 32)));
        Due.due("another upper half", true, pool.spoil(0, 0, 66, 4, word >>> 32 ^ 1));
        Due.due("spoilt", 1, () -> pool.look(3));
        Due.due("the bytes that were written last", true, pool.spoil(0, 0, 62, 8, word ^ 1L << 32));
        Due.due("valid", 0, () -> pool.look(3));
    }

    /** Bytes written since then are those written last: a cell that is spoilt anew comes back to them. */
    private static void writtenLast() {
        DiskPool pool = Pools.committed();
        Due.due("the file's block", true, pool.spoil(0, 30, 0, 1, 1));
        pool.feed(1, 78);
        pool.write(1, 0);
        pool.sync();
        Due.due("valid by the write", 0, () -> pool.look(3));
        Due.due("the mask is no way back", true, pool.spoil(0, 30, 0, 1, 1));
        Due.due("spoilt anew", 1, () -> pool.look(3));
        Due.due("as it was", 78, () -> pool.read(1, 0));
        Due.due("now it is", true, pool.spoil(0, 30, 0, 1, 1));
        Due.due("valid", 0, () -> pool.look(3));
    }

    /** The cells of one disk in three rows: two are mended, the last one still knows its own bytes. */
    private static void writtenLastBesideOthers() {
        DiskPool pool = new DiskPool(6, 5, 48);
        for (int row = 0; row < 3; row++) Due.due("row " + row, true, pool.spoil(0, row, 0, 8, 0x1111111111111111L));
        for (int row = 0; row < 3; row++) Due.due("row " + row, true, pool.spoil(0, row, 62, 8, 0x2222222222222222L));
        pool.off();
        pool.open();
        pool.scrub();
        Due.due("a half of the last one back", true, pool.spoil(0, 2, 62, 8, 0x2222222222222222L));
        Due.due("the middle one", 1, pool::scrub);
        Due.due("its other half", true, pool.spoil(0, 2, 0, 8, 0x1111111111111111L));
        Due.due("it is valid", 0, () -> pool.look(3));
        Due.due("and needs no mending", 0, pool::scrub);
    }

    // Promises 17 to 19

    private static void rebuilding() {
        DiskPool pool = Pools.committed();
        pool.lose(1);
        Due.refused("nothing to do, no write to be lost at", 0, pool, pool::rebuild);
        pool.fail(0);
        Due.due("power was lost", -9, pool::rebuild);
        Due.refused("off", Due.STATE, pool, pool::rebuild);
        pool.open();
        Due.due("a step", 1, pool::rebuild);
        Due.due("the rest", 23, () -> Pools.steps(pool::rebuild));
        Due.refused("nothing to do", 0, pool, pool::rebuild);
    }

    private static void copyingBack() {
        DiskPool pool = Pools.committed();
        pool.lose(1);
        Due.refused("nothing to do, no write to be lost at", 0, pool, pool::copyBack);
        pool.fail(0);
        pool.replace(0);
        Due.due("power was lost", -9, pool::copyBack);
        Due.refused("off", Due.STATE, pool, pool::copyBack);
        pool.open();
        Due.due("a step", 1, pool::copyBack);
        Due.due("the rest", 23, () -> Pools.steps(pool::copyBack));
        Due.refused("nothing to do", 0, pool, pool::copyBack);
    }

    private static void copyingBackHalf() {
        DiskPool pool = Pools.committed();
        pool.fail(0);
        Pools.steps(pool::rebuild);
        pool.replace(0);
        int writes = pool.look(1);
        pool.lose(2);
        Due.due("power was lost at the second write", -9, pool::copyBack);
        Due.due("the first was done", writes + 1, () -> pool.look(1));
        Due.due("so it is home", 0, () -> pool.place(0, 0));
        pool.open();
        Due.due("it is home", 0, () -> pool.place(0, 0));
        Due.due("the next ones", 23, () -> Pools.steps(pool::copyBack));
        Due.due("all spares are free", 144, () -> pool.look(4));
    }

    private static void scrubbing() {
        DiskPool pool = Pools.committed();
        pool.lose(1);
        for (int s = 0; s < 48; s++) Due.due("no write to be lost at", 0, pool::scrub);
        pool.spoil(0, 0, 0, 1, 1);
        Due.due("power was lost", -9, pool::scrub);
        Due.refused("off", Due.STATE, pool, pool::scrub);
        pool.open();
        Due.due("a cell was written anew", 1, pool::scrub);
        Due.due("one write", 41, () -> pool.look(1));
        Due.due("none is spoilt", 0, () -> pool.look(3));
        for (int s = 0; s < 48; s++) Due.due("none", 0, pool::scrub);
    }

    private static void scrubbingWithLost() {
        DiskPool pool = Pools.committed();
        pool.fail(0);
        Due.due("one that is lost is not written", 0, pool::scrub);
        pool.rebuild();
        pool.spoil(3, 0, 0, 1, 1);
        for (int s = 1; s < 48; s++) pool.scrub();
        Due.due("a spare that is spoilt is", 1, pool::scrub);
        Due.due("and is its place", 3, () -> pool.place(0, 0));
        Pools.reopen(pool);
        Due.due("and is found", 3, () -> pool.place(0, 0));
    }

    // Promise 21

    private static void noSuchPlace() {
        int[][] shapes = {{6, 3, 48, 3}, {7, 3, 64, 6}, {16, 5, 50, 15}, {16, 8, 64, 8}};
        for (int[] s : shapes) {
            DiskPool pool = new DiskPool(s[0], s[1], s[2]);
            for (int row : new int[] {-1, s[2], LEAST, MOST}) {
                Due.due("row " + row, Due.ARGUMENT, () -> pool.place(row, 0));
            }
            for (int position : new int[] {-1, s[3], s[0], LEAST, MOST}) {
                Due.due("position " + position, Due.ARGUMENT, () -> pool.place(0, position));
            }
            Due.due("the last of all", Pools.home(s[0], s[2] - 1, s[3] - 1), () -> pool.place(s[2] - 1, s[3] - 1));
            Due.due("the first of all", 0, () -> pool.place(0, 0));
            pool.off();
            Due.due("while it is off", Due.ARGUMENT, () -> pool.place(s[2], 0));
            Due.due("while it is off", Due.ARGUMENT, () -> pool.place(0, s[3]));
        }
    }

    private static void placesWhileOff() {
        DiskPool pool = Pools.committed();
        pool.fail(0);
        pool.rebuild();
        pool.rebuild();
        pool.spoil(3, 0, 0, 1, 1);
        Due.due("on", 3, () -> pool.place(0, 0));
        pool.off();
        Due.due("off: not valid", -1, () -> pool.place(0, 0));
        Due.due("off: valid", 4, () -> pool.place(1, 1));
        pool.replace(0);
        Due.due("off: blank", -1, () -> pool.place(0, 0));
        pool.fail(0);
        pool.open();
        Due.due("opened", -1, () -> pool.place(0, 0));
        Due.due("opened", 4, () -> pool.place(1, 1));
    }

    // Promise 22

    private static void noSuchLook() {
        DiskPool pool = Pools.committed();
        for (int what : new int[] {-1, 20, LEAST, MOST}) {
            Due.due("look(" + what + ")", Due.ARGUMENT, () -> pool.look(what));
        }
        pool.off();
        for (int what : new int[] {-1, 20, LEAST, MOST}) {
            Due.due("look(" + what + ") while it is off", Due.ARGUMENT, () -> pool.look(what));
        }
    }

    private static void looksWhileOff() {
        DiskPool pool = Pools.committed();
        pool.feed(3, 1);
        pool.scrub();
        pool.fail(0);
        Pools.steps(pool::rebuild);
        pool.spoil(3, 0, 0, 1, 1);
        pool.spoil(1, 1, 0, 1, 1);
        pool.cut(1, 2);
        Due.looks("on", pool, 1, 64, 0, 2, 96, 96, 0, 48, 1, 3, 6, 5, 3, 35, 62, 1, 1, 0, 1, 0);
        pool.off();
        Due.looks("off", pool, 0, 64, 1, 1, 97, 96, 0, 48, 1, 3, 6, 5, 3, -1, -1, -1, -1, -1, -1, -1);
        pool.open();
        Due.looks("opened", pool, 1, 64, 1, 1, 97, 96, 0, 48, 0, 3, 6, 5, 3, 35, 62, 0, 0, 0, 1, 0);
    }

    private static void nextWhileOff() {
        DiskPool pool = Pools.committed();
        for (int s = 0; s < 3; s++) pool.scrub();
        pool.off();
        Due.due("as it was", 3, () -> pool.look(8));
        pool.open();
        Due.due("opened", 0, () -> pool.look(8));
    }

    private static void operationsSinceTheCommit() {
        DiskPool pool = new DiskPool(6, 3, 48);
        pool.make(0, 1, false);
        pool.write(1, 0);
        pool.cut(1, 0);
        pool.move(0, 1, 0, 1);
        Due.due("four, three of nothing", 4, () -> pool.look(16));
        pool.find(0, 1);
        pool.make(0, 1, false);
        pool.write(1, 1);
        pool.cut(1, -1);
        pool.move(0, 2, 0, 1);
        pool.remove(0, 2);
        Due.due("none that answered below 0, nor find", 4, () -> pool.look(16));
        pool.cut(1, 1);
        pool.read(1, 0);
        Due.due("nor read", 5, () -> pool.look(16));
        pool.sync();
        Due.due("since the commit", 0, () -> pool.look(16));
        pool.write(1, 1);
        Due.due("one of nothing", 1, () -> pool.look(16));
        pool.sync();
        Due.due("since a sync of nothing", 0, () -> pool.look(16));
        pool.remove(0, 1);
        Due.due("one", 1, () -> pool.look(16));
        Pools.reopen(pool);
        Due.due("since the opening", 0, () -> pool.look(16));
    }

    private static void commitsMadeFirst() {
        DiskPool pool = Pools.brimful();
        Due.due("a sync is none", 0, () -> pool.look(17));
        pool.make(0, 7, false);
        Due.due("one", 1, () -> pool.look(17));
        Due.due("one operation since", 1, () -> pool.look(16));
        pool.sync();
        Due.due("one still", 1, () -> pool.look(17));
        Pools.reopen(pool);
        Due.due("since the opening", 0, () -> pool.look(17));
        DiskPool lost = Pools.brimful();
        lost.lose(200);
        Due.due("lost at its last write", -9, () -> lost.make(0, 7, false));
        lost.open();
        Due.due("not done, so not counted", 0, () -> lost.look(17));
        Due.due("though it is there", 2, () -> lost.look(18));
    }

    private static void noneStrayed() {
        for (int n = 1; n <= 40; n++) {
            DiskPool pool = Pools.withFile();
            pool.lose(n);
            pool.sync();
            pool.fail(n % 6);
            pool.open();
            int at = n;
            Due.due("lost at " + at, 0, () -> pool.look(19));
        }
    }

    public static void main(String[] args) {
        Due.holds("So many disks (8 if it is not 6 .. 16)", RackEdgesTest::disks);
        Due.holds("the width (3 if it is not 3 .. 8, or not below the disks that there are then)", RackEdgesTest::widths);
        Due.holds("the rows (48 if it is not 48 .. 64)", RackEdgesTest::rows);
        Due.holds("All cells are written, the root and the map too; it is on. No writes are counted.", RackEdgesTest::allIsWritten);
        Due.holds("Power will be lost at the n-th write of a cell from now on", RackEdgesTest::theNthWrite);
        Due.holds("in place of what was told", RackEdgesTest::inPlaceOfWhatWasTold);
        Due.holds("never for 0", RackEdgesTest::neverForZero);
        Due.holds("It is forgotten when it goes off", RackEdgesTest::forgottenWhenOff);
        Due.holds("Throws IllegalArgumentException when n is below 0", RackEdgesTest::belowZero);
        Due.holds("It is off at once. Throws IllegalStateException when it is.", RackEdgesTest::offAtOnce);
        Due.holds("Opens it: true; false when power was lost. Throws IllegalStateException when it is on.", RackEdgesTest::opening);
        Due.holds("A disk fails: true; false when it is failed, or that is refused. Throws IllegalArgumentException when there is none.", RackEdgesTest::failing);
        Due.holds("or that is refused", RackEdgesTest::failingToTheLast);
        Due.holds("A failed disk is replaced: true; false when it is live. Throws IllegalArgumentException when there is none.", RackEdgesTest::replacing);
        Due.holds("when there is no such disk, offset is not 0 .. ROWS - 1, n not 1 .. 8, at not 0 .. 70 - n", RackEdgesTest::spoilingNoSuchBytes);
        Due.holds("The n lowest bytes of mask, lowest first, are xored to those of a cell from place at on", RackEdgesTest::lowestFirst);
        Due.holds("or the n bytes of mask are all 0", RackEdgesTest::masksOf0);
        Due.holds("false when it is off, the disk is failed, the cell is no place", RackEdgesTest::spoilingNoPlace);
        Due.holds("that is refused", RackEdgesTest::spoilingTwoOfAStripe);
        Due.holds("or the cell would be valid then with other bytes (of all 70)", RackEdgesTest::validWithOtherBytes);
        Due.holds("than were written last", RackEdgesTest::writtenLast);
        Due.holds("with other bytes (of all 70) than were written last", RackEdgesTest::writtenLastBesideOthers);
        Due.holds("A step of rebuilding: 1; 0 when there is nothing to do; -9 when power was lost.", RackEdgesTest::rebuilding);
        Due.holds("A step of copying back: 1; 0 when there is nothing to do; -9 when power was lost.", RackEdgesTest::copyingBack);
        Due.holds("A step of copying back: ... -9 when power was lost", RackEdgesTest::copyingBackHalf);
        Due.holds("A step of scrubbing: 1 when a cell was written anew; 0 when not; -9 when power was lost.", RackEdgesTest::scrubbing);
        Due.holds("1 when a cell was written anew; 0 when not", RackEdgesTest::scrubbingWithLost);
        Due.holds("Throws IllegalArgumentException when there is no such row, or the position is none of a stripe.", RackEdgesTest::noSuchPlace);
        Due.holds("-1 when it is lost (while it is off, of that which opening would find)", RackEdgesTest::placesWhileOff);
        Due.holds("Throws IllegalArgumentException for another what", RackEdgesTest::noSuchLook);
        Due.holds("(While it is off, 2 to 4 are by the places that opening would find.) And while it is on (-1 while it is off)", RackEdgesTest::looksWhileOff);
        Due.holds("8 NEXT (while it is off as it was)", RackEdgesTest::nextWhileOff);
        Due.holds("16 operations that answered 0 or more, one of nothing too ... since the latest commit (a sync of nothing is one, too) or opening", RackEdgesTest::operationsSinceTheCommit);
        Due.holds("17 commits that operations made first (and that were done), since the opening", RackEdgesTest::commitsMadeFirst);
        Due.holds("(none, ever)", RackEdgesTest::noneStrayed);
        Due.end();
    }
}
