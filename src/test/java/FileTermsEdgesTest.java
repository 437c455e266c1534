/** The document's terms from the journal to the exceptions: each sentence that names a boundary. */
public final class FileTermsEdgesTest {
    /** The largest volume, 768 blocks, of which a file has all from 60 on: the root has block 59. */
    private static DiskPool largest() {
        DiskPool pool = new DiskPool(16, 5, 64);
        Pools.file(pool, 1, 708 * 64);
        return pool;
    }

    /** A file with seven extents of one block, and another one in the gaps between them. */
    private static DiskPool sevenExtents() {
        DiskPool pool = new DiskPool(16, 5, 64);
        pool.make(0, 1, false);
        pool.make(0, 2, false);
        for (int i = 1; i <= 7; i++) {
            pool.cut(1, 64 * i);
            pool.cut(2, 64 * i);
        }
        return pool;
    }

    private static void put(DiskPool pool, int inode, int offset, int value) {
        pool.feed(1, value);
        pool.write(inode, offset);
    }

    private static void journalAtFirst() {
        DiskPool pool = new DiskPool(6, 3, 48);
        Due.due("the sequence", 0, () -> pool.look(18));
        Pools.reopen(pool);
        Due.due("nothing to recover", 0, () -> pool.look(1));
        Due.due("the sequence", 0, () -> pool.look(18));
        pool.make(0, 1, false);
        pool.sync();
        Due.due("the next sequence", 1, () -> pool.look(18));
    }

    private static void commits() {
        DiskPool pool = Pools.committed();
        int writes = pool.look(1);
        pool.cut(1, 2);
        Due.due("one block", 1, pool::sync);
        Due.due("its payload, the head, itself, the head", writes + 16, () -> pool.look(1));
        Due.due("the next sequence", 2, () -> pool.look(18));
        Due.due("none", 0, pool::sync);
        Due.due("no write", writes + 16, () -> pool.look(1));
        Due.due("the same sequence", 2, () -> pool.look(18));
        DiskPool full = Pools.brimful();
        int before = full.look(1);
        Due.due("24 blocks", 24, full::sync);
        Due.due("their payload, the head, themselves, the head", before + 200, () -> full.look(1));
        Due.due("the next sequence", 2, () -> full.look(18));
        Pools.reopen(full);
        Due.due("all is there", 0x0505050505050505L, () -> full.read(5, 5 * 64 - 8));
        Due.due("nothing was recovered", before + 200, () -> full.look(1));
    }

    /** Of 24 blocks: 96 writes of the payload, 4 of the head, 96 of the targets, 4 of the head. */
    private static void recovers() {
        int[][] cases = {{97, 0, 0}, {98, 2, 0}, {99, 2, 100}, {100, 2, 100}, {101, 0, 100}, {197, 0, 100}, {198, 2, 100}, {199, 2, 0}, {200, 2, 0}};
        for (int[] c : cases) {
            DiskPool pool = Pools.brimful();
            int before = pool.look(1);
            pool.lose(c[0]);
            Due.due("lost at " + c[0], -9, pool::sync);
            Due.due("opens", true, pool.open());
            Due.due("lost at " + c[0] + ", done", before + c[0] - 1 + c[1] + c[2], () -> pool.look(1));
            boolean there = c[0] > 98;
            Due.due("lost at " + c[0] + ", the sequence", there ? 2 : 1, () -> pool.look(18));
            Due.due("lost at " + c[0] + ", the size", there ? 320 : 0, () -> pool.node(5, 1));
            if (there) Due.due("lost at " + c[0] + ", the bytes", 0x0505050505050505L, () -> pool.read(5, 312));
            Pools.reopen(pool);
            Due.due("lost at " + c[0] + ", once", before + c[0] - 1 + c[1] + c[2], () -> pool.look(1));
        }
    }

    private static void recoversOne() {
        DiskPool pool = Pools.committed();
        put(pool, 1, 0, 5);
        pool.lose(9);
        Due.due("lost at the first write of the target", -9, pool::sync);
        pool.lose(8);
        Due.due("lost at the last write of the head", false, pool.open());
        pool.open();
        Due.due("the log's two alone", 40 + 8 + 7 + 2, () -> pool.look(1));
        Due.due("it is there", 5, () -> pool.read(1, 0));
        Due.due("once", 2, () -> pool.look(18));
    }

    /** Numbers of blocks with one byte, with two, and the last one of all, as targets. */
    private static void targets() {
        DiskPool pool = largest();
        pool.sync();
        int[] blocks = {60, 255, 256, 511, 512, 767};
        for (int i = 0; i < blocks.length; i++) put(pool, 1, 64 * (blocks[i] - 60) + 63, i + 1);
        Due.due("changed", 6, () -> pool.look(15));
        int before = pool.look(1);
        pool.lose(4 * 7 + 1);
        Due.due("lost ahead of the targets", -9, pool::sync);
        pool.open();
        Due.due("recovered", before + 4 * 7 + 4 * 7, () -> pool.look(1));
        for (int i = 0; i < blocks.length; i++) {
            int at = 64 * (blocks[i] - 60) + 63;
            Due.due("block " + blocks[i], i + 1, () -> pool.read(1, at) & 255);
            Due.due("ahead in block " + blocks[i], 0, () -> pool.read(1, at - 8));
        }
        Due.due("nothing strayed", 0, () -> pool.look(19));
    }

    private static void nothingToRecover() {
        DiskPool pool = Pools.committed();
        pool.lose(1);
        Pools.reopen(pool);
        pool.lose(1);
        pool.off();
        pool.lose(1);
        Due.due("opens without a write", true, pool.open());
        Due.due("none was done", 40, () -> pool.look(1));
        Due.due("the same sequence", 1, () -> pool.look(18));
    }

    /** Which blocks are changed by the next inodes: two of them are in one block. */
    private static void inodeBlocks() {
        DiskPool pool = new DiskPool(6, 3, 48);
        int[] changed = {3, 4, 4, 5, 5, 6, 6};
        for (int i = 0; i < changed.length; i++) {
            pool.make(0, i + 1, false);
            Due.due("with inode " + (i + 1), changed[i], () -> pool.look(15));
        }
    }

    private static void lastInode() {
        DiskPool pool = new DiskPool(8, 3, 48);
        for (int i = 1; i < 64; i++) pool.make(0, 1000 + i, i == 63);
        Due.due("none is free", 0, () -> pool.look(14));
        Due.due("no 65th", -3, () -> pool.make(0, 5, false));
        put(pool, 62, 0, 9);
        pool.make(63, 1, false);
        pool.sync();
        Pools.reopen(pool);
        Due.due("its entry", 63, () -> pool.find(0, 1063));
        Due.due("a directory", 2, () -> pool.node(63, 0));
        Due.due("a file beside it", 9, () -> pool.read(62, 0));
        Due.due("none is free", 0, () -> pool.look(14));
        Due.due("removed", 0, () -> pool.remove(0, 1063));
        Due.due("the last is free", 63, () -> pool.make(0, 5, false));
        Due.due("none behind it", Due.ARGUMENT, () -> pool.node(64, 0));
    }

    private static void extentsOfAnInode() {
        DiskPool pool = sevenExtents();
        Due.due("none has none", 0, () -> pool.node(3, 2));
        pool.cut(1, 64 * 8);
        Due.due("eight", 8, () -> pool.node(1, 2));
        Due.due("the eighth", 74, () -> pool.node(1, 17));
        Due.due("of one block", 1, () -> pool.node(1, 18));
        pool.cut(2, 64 * 8);
        pool.sync();
        Pools.reopen(pool);
        Due.due("still eight", 8, () -> pool.node(1, 2));
        for (int e = 0; e < 8; e++) {
            int extent = e;
            Due.due("extent " + e, 60 + 2 * e, () -> pool.node(1, 3 + 2 * extent));
        }
        Due.refused("no ninth", -4, pool, () -> pool.cut(1, 64 * 9));
        pool.cut(1, 0);
        Due.due("none again", 0, () -> pool.node(1, 2));
        Due.due("no first", Due.ELEMENT, () -> pool.node(1, 3));
    }

    private static void sizesAndLengths() {
        DiskPool pool = largest();
        pool.sync();
        Pools.reopen(pool);
        Due.due("a size of two bytes", 708 * 64, () -> pool.node(1, 1));
        int[] due = {3, 60, 255, 315, 255, 570, 198};
        for (int i = 0; i < due.length; i++) {
            int what = i + 2;
            Due.due("node(1, " + what + ")", due[i], () -> pool.node(1, what));
        }
        for (int size : new int[] {254, 255, 256, 257}) {
            pool.cut(1, size);
            pool.sync();
            Pools.reopen(pool);
            Due.due("the size", size, () -> pool.node(1, 1));
        }
    }

    private static void blocksForASize() {
        int[][] cases = {{0, 0}, {1, 1}, {63, 1}, {64, 1}, {65, 2}, {127, 2}, {128, 2}, {129, 3}, {1023, 16}, {1024, 16}};
        for (int[] c : cases) {
            DiskPool pool = new DiskPool(6, 3, 48);
            pool.make(0, 1, false);
            pool.cut(1, c[0]);
            Due.due("free with a size of " + c[0], 36 - c[1], () -> pool.look(13));
            if (c[1] > 0) Due.due("its extent", c[1], () -> pool.node(1, 4));
            pool.cut(1, 1024);
            pool.cut(1, c[0]);
            Due.due("free when it is cut to " + c[0], 36 - c[1], () -> pool.look(13));
        }
    }

    private static void bytesBehindTheSize() {
        for (int size : new int[] {0, 1, 7, 63, 64, 65, 127}) {
            DiskPool pool = new DiskPool(6, 3, 48);
            pool.make(0, 1, false);
            Pools.feed(pool, 128, 255);
            pool.write(1, 0);
            pool.cut(1, size);
            pool.sync();
            pool.cut(1, 128);
            for (int at = 0; at < 128; at++) {
                int from = at;
                Due.due("cut to " + size + ", byte " + at, at < size ? 255 : 0, () -> pool.read(1, from) & 255);
            }
        }
    }

    /** An extent that is given back, too, leaves 0s: so the inodes are as they were. */
    private static void extentsThatAreNone() {
        DiskPool pool = sevenExtents();
        pool.sync();
        pool.cut(1, 64 * 8);
        Due.due("an eighth: inodes, map", 2, () -> pool.look(15));
        pool.cut(1, 64 * 7);
        Due.due("all as it was", 0, () -> pool.look(15));
        pool.cut(2, 64 * 9);
        pool.cut(2, 64 * 7);
        Due.due("all as it was", 0, () -> pool.look(15));
    }

    /** Two files in turn: each block has bytes of its own file alone. */
    private static void extentsInTurn() {
        DiskPool pool = sevenExtents();
        pool.cut(1, 64 * 10);
        for (int i = 0; i < 10; i++) {
            put(pool, 1, 64 * i, 100 + i);
            if (i < 7) put(pool, 2, 64 * i, 200 + i);
        }
        for (int round = 0; round < 2; round++) {
            for (int i = 0; i < 10; i++) {
                int at = i;
                Due.due("the one, block " + i, 100 + i, () -> pool.read(1, 64 * at));
                if (i < 7) Due.due("the other, block " + i, 200 + i, () -> pool.read(2, 64 * at));
            }
            pool.sync();
            Pools.reopen(pool);
        }
    }

    private static void freeInodes() {
        DiskPool pool = new DiskPool(6, 3, 48);
        pool.make(0, 1, false);
        pool.sync();
        pool.make(0, 2, false);
        pool.cut(2, 100);
        Due.due("changed: two blocks of inodes would be three", 3, () -> pool.look(15));
        pool.remove(0, 2);
        Due.due("all 0s, as it was", 0, () -> pool.look(15));
        for (int what = 0; what < 3; what++) {
            int which = what;
            Due.due("node(2, " + what + ")", 0, () -> pool.node(2, which));
        }
    }

    private static void firstAndLastBlock() {
        DiskPool pool = new DiskPool(6, 3, 48);
        Due.due("59 are taken", 96 - 59, () -> pool.look(13));
        pool.make(0, 1, false);
        Due.due("the first that is free", 59, () -> pool.node(0, 3));
        for (int i = 1; i <= 36; i++) pool.cut(1, 64 * i);
        Due.due("none is free", 0, () -> pool.look(13));
        Due.due("up to the last", 96, () -> pool.node(1, 3) + pool.node(1, 4));
        Due.refused("none behind it", -4, pool, () -> pool.cut(1, 64 * 36 + 1));
        pool.sync();
        Pools.reopen(pool);
        Due.due("none is free still", 0, () -> pool.look(13));
    }

    /** The blocks 511 and 512 have their bits in the two blocks of the map. */
    private static void bothBlocksOfTheMap() {
        DiskPool pool = new DiskPool(16, 5, 64);
        Pools.file(pool, 1, (511 - 60) * 64);
        Due.due("the inodes, the root, the map's first", 3, () -> pool.look(15));
        pool.sync();
        pool.cut(1, (512 - 60) * 64);
        Due.due("with 511 the map's first block", 2, pool::sync);
        pool.cut(1, (513 - 60) * 64);
        Due.due("with 512 the map's second block", 2, pool::sync);
        Pools.reopen(pool);
        Due.due("so many are free", 768 - 513, () -> pool.look(13));
        pool.cut(1, (511 - 60) * 64);
        Due.due("both given back", 3, pool::sync);
        Pools.reopen(pool);
        Due.due("so many are free", 768 - 511, () -> pool.look(13));
        pool.cut(1, (512 - 60) * 64);
        Due.due("511 once more", 511, () -> pool.node(1, 5) + pool.node(1, 6) - 1);
    }

    private static void takesRightBehind() {
        DiskPool pool = new DiskPool(8, 3, 48);
        Pools.file(pool, 1, 64);
        Pools.file(pool, 2, 64);
        pool.cut(1, 0);
        Due.due("60 is free, but 62 is right behind", 128, () -> pool.cut(2, 128));
        Due.due("one extent", 1, () -> pool.node(2, 2));
        Due.due("of two", 2, () -> pool.node(2, 4));
        Pools.file(pool, 3, 128);
        Due.due("another one has 60", 60, () -> pool.node(3, 3));
        Due.due("and, 61 being taken, 63", 63, () -> pool.node(3, 5));
        Due.due("the least free", 64 * 3, () -> pool.cut(2, 64 * 3));
        Due.due("as an extent of its own", 64, () -> pool.node(2, 5));
    }

    private static void takesTheLeastFree() {
        DiskPool pool = new DiskPool(8, 3, 48);
        for (int i = 1; i <= 4; i++) Pools.file(pool, i, 64);
        pool.cut(3, 0);
        pool.cut(2, 0);
        Due.due("61 and 62 are free, 61 is right behind", 128, () -> pool.cut(1, 128));
        Due.due("it grew", 2, () -> pool.node(1, 4));
        pool.cut(1, 64);
        Due.due("64 is right behind, 61 the least", 64, () -> pool.cut(2, 64));
        Due.due("the least", 61, () -> pool.node(2, 3));
        Due.due("61 is taken, 62 is the least", 128, () -> pool.cut(1, 128));
        Due.due("as an extent of its own", 62, () -> pool.node(1, 5));
        Due.due("that grows in its turn", 192, () -> pool.cut(4, 192));
        Due.due("64 and 65", 3, () -> pool.node(4, 4));
    }

    private static void takesAtTheEnd() {
        DiskPool pool = new DiskPool(6, 3, 48);
        Pools.file(pool, 1, 64);
        Pools.file(pool, 2, 35 * 64);
        Due.due("up to the last", 96, () -> pool.node(2, 3) + pool.node(2, 4));
        Due.refused("none", -4, pool, () -> pool.cut(2, 36 * 64));
        pool.cut(1, 0);
        Due.due("nothing is behind the last", 36 * 64, () -> pool.cut(2, 36 * 64));
        Due.due("so the least free", 60, () -> pool.node(2, 5));
        Due.due("two extents", 2, () -> pool.node(2, 2));
    }

    private static void fewerThan255() {
        DiskPool pool = new DiskPool(16, 5, 64);
        Pools.file(pool, 1, 254 * 64);
        Due.due("254", 254, () -> pool.node(1, 4));
        pool.cut(1, 255 * 64);
        Due.due("255", 255, () -> pool.node(1, 4));
        Due.due("in one", 1, () -> pool.node(1, 2));
        pool.cut(1, 256 * 64);
        Due.due("255 still", 255, () -> pool.node(1, 4));
        Due.due("that right behind", 60 + 255, () -> pool.node(1, 5));
        Due.due("as an extent of its own", 1, () -> pool.node(1, 6));
        pool.feed(8, 0x0102030405060708L);
        Due.due("over both", 256 * 64, () -> pool.write(1, 255 * 64 - 4));
        Due.due("over both", 0x0102030405060708L, () -> pool.read(1, 255 * 64 - 4));
    }

    private static void noNinthExtent() {
        DiskPool pool = sevenExtents();
        for (int blocks = 7; blocks <= 262; blocks += 15) pool.cut(1, 64 * blocks);
        Due.due("eight", 8, () -> pool.node(1, 2));
        Due.due("the eighth has 255", 255, () -> pool.node(1, 18));
        Due.due("many are free", 768 - 59 - 1 - 7 - 262, () -> pool.look(13));
        Due.refused("one more would be a ninth", -4, pool, () -> pool.cut(1, 64 * 262 + 1));
        Due.due("in its last block", 64 * 262, () -> pool.cut(1, 64 * 262));
        pool.cut(1, 64 * 261);
        Due.due("the eighth grows again", 64 * 262, () -> pool.cut(1, 64 * 262));
    }

    private static void takenBlocksAre0() {
        DiskPool pool = new DiskPool(6, 3, 48);
        pool.make(0, 1, false);
        Pools.feed(pool, 64, 255);
        pool.write(1, 0);
        pool.remove(0, 1);
        pool.make(0, 2, false);
        pool.cut(1, 64);
        for (int at = 0; at < 64; at += 8) {
            int from = at;
            Due.due("0s that were not committed", 0, () -> pool.read(1, from));
        }
        Pools.feed(pool, 64, 255);
        pool.write(1, 0);
        pool.sync();
        pool.cut(1, 0);
        pool.sync();
        pool.cut(1, 64);
        for (int at = 0; at < 64; at += 8) {
            int from = at;
            Due.due("0s that were", 0, () -> pool.read(1, from));
        }
        Due.due("inodes, map, and the block itself", 3, pool::sync);
        Pools.reopen(pool);
        Due.due("0s still", 0, () -> pool.read(1, 56));
    }

    /** A directory's new block, too: what was there is no entry. */
    private static void takenByADirectory() {
        DiskPool pool = new DiskPool(6, 3, 48);
        int inode = Pools.file(pool, 1, 0);
        Pools.feed(pool, 64, 1);
        pool.write(inode, 0);
        pool.sync();
        pool.cut(inode, 0);
        pool.make(0, 2, true);
        pool.make(2, 3, false);
        Due.due("that block", 60, () -> pool.node(2, 3));
        Due.due("one entry", 3 | 3 << 16, () -> pool.read(2, 0));
        Due.due("no other one", -1, () -> pool.find(2, 257));
        Due.due("0s", 0, () -> pool.read(2, 56));
    }

    private static void givenBackFromTheEnd() {
        DiskPool pool = sevenExtents();
        pool.cut(1, 64 * 8);
        pool.cut(1, 64 * 9);
        Due.due("the last has two", 2, () -> pool.node(1, 18));
        pool.cut(1, 64 * 8);
        Due.due("one is left of it", 1, () -> pool.node(1, 18));
        pool.cut(1, 64 * 7 + 1);
        Due.due("a byte keeps it", 8, () -> pool.node(1, 2));
        pool.cut(1, 64 * 7);
        Due.due("it is gone", 7, () -> pool.node(1, 2));
        pool.cut(1, 1);
        Due.due("one is left", 1, () -> pool.node(1, 2));
        Due.due("the first", 60, () -> pool.node(1, 3));
        Pools.file(pool, 3, 64 * 2);
        Due.due("the others are free", 62 * 100 + 64, () -> 100 * pool.node(3, 3) + pool.node(3, 5));
    }

    private static void namesOfTwoBytes() {
        DiskPool pool = new DiskPool(6, 3, 48);
        int[] names = {1, 255, 256, 257, 65280, 65535};
        for (int name : names) pool.make(0, name, false);
        pool.sync();
        Pools.reopen(pool);
        for (int i = 0; i < names.length; i++) {
            int at = i;
            Due.due("name " + names[i], i + 1, () -> pool.find(0, names[at]));
        }
        Due.due("lowest first", 1 | 1 << 16 | 0x000200FFL << 32, () -> pool.read(0, 0));
        Due.due("the last", 65535L | 6 << 16, () -> pool.read(0, 20) & 0xFFFFFFFFL);
    }

    private static void emptyEntries() {
        DiskPool pool = new DiskPool(6, 3, 48);
        for (int i = 1; i <= 3; i++) pool.make(0, 0x0101 * i, i == 3);
        pool.remove(0, 0x0101);
        Due.due("removed", 0x0202L | 2 << 16, () -> pool.read(0, 0) >>> 32);
        Due.due("all its bytes", 0, () -> pool.read(0, 0) & 0xFFFFFFFFL);
        pool.move(0, 0x0202, 3, 9);
        Due.due("moved", 0, () -> pool.read(0, 0));
        Due.due("the first empty one", 1, () -> pool.make(0, 4, false));
        Due.due("is the first", 4 | 1 << 16, () -> pool.read(0, 0));
    }

    private static void directoriesGrow() {
        DiskPool pool = new DiskPool(8, 3, 48);
        Due.due("the root at first", 0, () -> pool.node(0, 1));
        Due.due("has no block", 0, () -> pool.node(0, 2));
        Due.due("and no entry", -1, () -> pool.find(0, 1));
        for (int i = 1; i <= 16; i++) pool.make(0, i, false);
        Due.due("16 entries", 64, () -> pool.node(0, 1));
        pool.make(0, 17, false);
        Due.due("17 entries", 128, () -> pool.node(0, 1));
        Due.due("two blocks", 2, () -> pool.node(0, 4));
        Due.due("the 17th", 17 | 17 << 16, () -> pool.read(0, 64));
        for (int i = 1; i <= 17; i++) pool.remove(0, i);
        Due.due("the size stays", 128, () -> pool.node(0, 1));
        Due.due("the first of both", 1, () -> pool.make(0, 18, false));
        Due.due("the first of both", 18 | 1 << 16, () -> pool.read(0, 0));
        for (int i = 19; i <= 34; i++) pool.make(0, i, false);
        Due.due("into the second", 34 | 17 << 16, () -> pool.read(0, 64));
        Due.due("no third", 128, () -> pool.node(0, 1));
    }

    private static void sizesOfDirectories() {
        DiskPool pool = new DiskPool(8, 3, 48);
        pool.make(0, 1, true);
        Due.due("none", 0, () -> pool.node(1, 1));
        for (int i = 1; i <= 33; i++) {
            int many = i;
            pool.make(1, i, false);
            Due.due(i + " entries", (many + 15) / 16 * 64, () -> pool.node(1, 1));
        }
        for (int i = 33; i > 0; i--) pool.remove(1, i);
        Due.due("none again", 192, () -> pool.node(1, 1));
    }

    private static void root() {
        DiskPool pool = new DiskPool(6, 3, 48);
        Due.due("a directory", 2, () -> pool.node(0, 0));
        Due.due("of size 0", 0, () -> pool.node(0, 1));
        Due.due("without a byte", Due.ELEMENT, () -> pool.read(0, 0));
        Due.due("no file", -5, () -> pool.write(0, 0));
        Due.due("nor cut", -5, () -> pool.cut(0, 0));
        pool.make(0, 1, true);
        Due.due("its number is none's", 1, () -> pool.find(0, 1));
        Due.due("one is within it", 0, () -> pool.find(1, 1) + 1);
        pool.remove(0, 1);
        Due.due("it is never free", 2, () -> pool.node(0, 0));
        Due.due("63 are", 63, () -> pool.look(14));
    }

    private static void changedBlocks() {
        DiskPool pool = Pools.withFile();
        Due.due("four", 4, () -> pool.look(15));
        pool.sync();
        Due.due("the journal's are none", 0, () -> pool.look(15));
        put(pool, 1, 0, 78);
        Due.due("one", 1, () -> pool.look(15));
        put(pool, 1, 0, 77);
        Due.due("as the volume has it", 0, () -> pool.look(15));
        pool.cut(1, 0);
        Due.due("one given back is none: inodes, map", 2, () -> pool.look(15));
        pool.cut(1, 1);
        Due.due("0s where the volume has others", 1, () -> pool.look(15));
        pool.cut(1, 65);
        Due.due("0s where the volume has 0s", 3, () -> pool.look(15));
    }

    private static void allOrNothing() {
        DiskPool pool = new DiskPool(6, 3, 48);
        int inode = Pools.file(pool, 1, 30 * 64);
        put(pool, inode, 0, 3);
        Due.refused("six are free, seven needed", -4, pool, () -> pool.cut(inode, 36 * 64 + 1));
        Due.due("six are free", 6, () -> pool.look(13));
        Due.due("six are taken", 36 * 64, () -> pool.cut(inode, 36 * 64));
        DiskPool other = new DiskPool(6, 3, 48);
        int longer = Pools.file(other, 1, 35 * 64);
        put(other, longer, 0, 3);
        Pools.feed(other, 130, 9);
        Due.due("one is free, two needed", -4, () -> other.write(longer, 35 * 64 - 1));
        Due.due("nothing is written", 0, () -> other.read(longer, 35 * 64 - 1));
        Due.due("nor at all", 35 * 64, () -> other.node(longer, 1));
        Due.due("one is free", 1, () -> other.look(13));
    }

    private static void moreThan24() {
        DiskPool pool = Pools.brimful();
        int writes = pool.look(1);
        Due.due("changed, but no more", 512, () -> { pool.feed(1, 99); return pool.write(3, 0); });
        Due.due("24 still", 24, () -> pool.look(15));
        Due.due("no commit", writes, () -> pool.look(1));
        Due.due("a 25th", 7, () -> pool.make(0, 7, false));
        Due.due("a commit first", writes + 200, () -> pool.look(1));
        Due.due("one", 1, () -> pool.look(17));
        Due.due("what it changed itself", 2, () -> pool.look(15));
        Pools.reopen(pool);
        Due.due("it was not committed", -1, () -> pool.find(0, 7));
        Due.due("what was there before it was", 99, () -> pool.read(3, 0) & 255);
    }

    private static void belowZeroCommitsNothing() {
        DiskPool pool = Pools.brimful();
        Due.refused("a name that is there", -2, pool, () -> pool.make(0, 6, false));
        Due.refused("an offset out of bounds", -8, pool, () -> pool.write(6, 1));
        Due.refused("a size out of bounds", -8, pool, () -> pool.cut(6, 1025));
        DiskPool full = new DiskPool(7, 3, 48);
        for (int i = 1; i <= 3; i++) full.make(0, i, false);
        for (int i = 1; i <= 3; i++) {
            Pools.feed(full, i == 3 ? 4 * 64 : 512, i);
            full.write(i, 0);
        }
        Due.due("24", 24, () -> full.look(15));
        Due.due("the others", 133 - 1 - 20, () -> full.look(13));
        for (int i = 1; i <= 7; i++) full.cut(3, 256 + Math.min(112, 16 * i) * 64);
        Due.due("24", 24, () -> full.look(15));
        Due.due("none is free", 0, () -> full.look(13));
        Due.refused("no block", -4, full, () -> full.cut(2, 513));
    }

    private static void powerLostFirst() {
        for (int n : new int[] {1, 98, 99, 200}) {
            DiskPool pool = Pools.brimful();
            pool.lose(n);
            Due.due("lost at " + n, -9, () -> pool.make(0, 7, false));
            Due.due("off", 0, () -> pool.look(0));
            pool.open();
            Due.due("it is not done", -1, () -> pool.find(0, 7));
            Due.due("what was there before it", n > 98 ? 320 : 0, () -> pool.node(5, 1));
            Due.due("no commit is counted", 0, () -> pool.look(17));
        }
        DiskPool pool = Pools.brimful();
        pool.lose(201);
        Due.due("lost behind it", 7, () -> pool.make(0, 7, false));
        Due.due("lost then", -9, pool::sync);
    }

    /** 1 is a directory with the empty file 2, 3 a file of ten bytes, 4 and more are free. */
    private static DiskPool small() {
        DiskPool pool = new DiskPool(6, 3, 48);
        pool.make(0, 1, true);
        pool.make(1, 2, false);
        pool.make(0, 3, false);
        pool.cut(3, 10);
        return pool;
    }

    private static void noInodeOrEntry() {
        DiskPool pool = small();
        Due.due("make", -1, () -> pool.make(4, 1, false));
        Due.due("find", -1, () -> pool.find(4, 1));
        Due.due("write", -1, () -> pool.write(4, 0));
        Due.due("cut", -1, () -> pool.cut(4, 0));
        Due.due("move from", -1, () -> pool.move(4, 1, 0, 9));
        Due.due("move to", -1, () -> pool.move(0, 3, 4, 9));
        Due.due("remove", -1, () -> pool.remove(4, 1));
        Due.due("no entry to find", -1, () -> pool.find(0, 2));
        Due.due("no entry to move", -1, () -> pool.move(0, 2, 0, 9));
        Due.refused("no entry to remove", -1, pool, () -> pool.remove(0, 2));
    }

    private static void otherKinds() {
        DiskPool pool = small();
        Due.due("make in a file", -5, () -> pool.make(3, 1, false));
        Due.due("find in a file", -5, () -> pool.find(3, 1));
        Due.due("write into a directory", -5, () -> pool.write(1, 0));
        Due.due("cut a directory", -5, () -> pool.cut(1, 0));
        Due.due("move from a file", -5, () -> pool.move(3, 1, 0, 9));
        Due.due("move into a file", -5, () -> pool.move(0, 1, 3, 9));
        Due.due("remove from a file", -5, () -> pool.remove(3, 1));
        Due.due("a directory onto a file", -5, () -> pool.move(0, 1, 0, 3));
        Due.refused("a file onto a directory", -5, pool, () -> pool.move(0, 3, 0, 1));
    }

    private static void outOfBounds() {
        DiskPool pool = small();
        for (int offset : new int[] {-1, 11, Integer.MIN_VALUE, Integer.MAX_VALUE}) {
            Due.due("write at " + offset, -8, () -> pool.write(3, offset));
        }
        for (int size : new int[] {-1, 1035, Integer.MIN_VALUE, Integer.MAX_VALUE}) {
            Due.due("cut to " + size, -8, () -> pool.cut(3, size));
        }
        Due.due("write at the end", 10, () -> pool.write(3, 10));
        Due.due("cut to the most", 1034, () -> pool.cut(3, 1034));
    }

    private static void powerLostInACommit() {
        DiskPool[] pools = new DiskPool[6];
        for (int i = 0; i < 6; i++) {
            pools[i] = Pools.brimful();
            pools[i].lose(150);
        }
        Due.due("make", -9, () -> pools[0].make(0, 7, false));
        Due.due("write", -9, () -> { pools[1].feed(1, 1); return pools[1].write(6, 0); });
        Due.due("cut", -9, () -> pools[2].cut(6, 1));
        Due.due("move", -9, () -> pools[3].move(1, 5, 1, 9));
        Due.due("remove", -9, () -> pools[4].remove(1, 5));
        Due.due("sync", -9, pools[5]::sync);
        for (DiskPool pool : pools) {
            Due.due("off", 0, () -> pool.look(0));
            Due.due("opens", true, pool.open());
            Due.due("what was there before", 320, () -> pool.node(5, 1));
            Due.due("and nothing else", 2, () -> pool.find(1, 5));
            Due.due("and nothing else", 0, () -> pool.node(6, 1) + pool.node(7, 0));
        }
    }

    private static void firstException() {
        DiskPool pool = new DiskPool(6, 3, 48);
        for (int i = 0; i < 64; i++) pool.feed(8, 0);
        Due.refused("n ahead of a full tape", Due.ARGUMENT, pool, () -> pool.feed(0, 0));
        Due.refused("n ahead of a full tape", Due.ARGUMENT, pool, () -> pool.feed(9, 0));
        pool.off();
        Due.refused("make", Due.ARGUMENT, pool, () -> pool.make(64, 1, false));
        Due.refused("make", Due.ARGUMENT, pool, () -> pool.make(0, 65536, false));
        Due.refused("find", Due.ARGUMENT, pool, () -> pool.find(0, 0));
        Due.refused("write", Due.ARGUMENT, pool, () -> pool.write(-1, 0));
        DiskPool other = new DiskPool(6, 3, 48);
        other.off();
        Due.refused("cut", Due.ARGUMENT, other, () -> other.cut(64, 0));
        Due.refused("read", Due.ARGUMENT, other, () -> other.read(64, 0));
        Due.refused("read: off ahead of a free one", Due.STATE, other, () -> other.read(1, 0));
        Due.refused("move", Due.ARGUMENT, other, () -> other.move(0, 1, 64, 1));
        Due.refused("remove", Due.ARGUMENT, other, () -> other.remove(0, 0));
        Due.refused("node", Due.ARGUMENT, other, () -> other.node(64, 99));
        Due.refused("node: off ahead of no what", Due.STATE, other, () -> other.node(1, 99));
    }

    private static void throwingChangesNothing() {
        DiskPool pool = Pools.withFile();
        pool.feed(1, 1);
        Due.refused("feed", Due.ARGUMENT, pool, () -> pool.feed(9, 1));
        Due.refused("write", Due.ARGUMENT, pool, () -> pool.write(64, 0));
        Due.refused("open", Due.STATE, pool, () -> Due.one(pool.open()));
        pool.lose(2);
        Due.refused("lose", Due.ARGUMENT, pool, () -> { pool.lose(-1); return 0; });
        Due.due("what was told stays", -9, pool::sync);
        Due.due("what was told stays", 1, () -> pool.look(1));
        pool.lose(2);
        Due.refused("off", Due.STATE, pool, () -> { pool.off(); return 0; });
        Due.due("what was told stays", false, pool.open());
    }

    private static void tape() {
        DiskPool pool = new DiskPool(6, 3, 48);
        Due.due("none at first", 0, () -> pool.look(12));
        for (int i = 0; i < 63; i++) pool.feed(8, 0);
        pool.feed(7, 0);
        Due.refused("513", Due.STATE, pool, () -> pool.feed(2, 0));
        Due.due("512", 512, () -> pool.feed(1, 77));
        pool.off();
        Due.due("while it is off", 512, () -> pool.look(12));
        Due.refused("513 while it is off", Due.STATE, pool, () -> pool.feed(1, 0));
        pool.open();
        pool.make(0, 1, false);
        Due.due("it stayed", 512, () -> pool.write(1, 0));
        Due.due("its last byte", 77, () -> pool.read(1, 511));
        Due.due("used up", 0, () -> pool.look(12));
    }

    private static void ownMemory() {
        DiskPool a = new DiskPool(6, 3, 48);
        DiskPool b = new DiskPool(6, 3, 48);
        String before = Pools.state(b);
        put(a, a.make(0, 1, false), 0, 5);
        a.sync();
        a.fail(0);
        a.feed(1, 1);
        a.lose(1);
        Due.due("the other is as it was", true, before.equals(Pools.state(b)));
        Due.due("and has its own inodes", 1, () -> b.make(0, 1, true));
        Due.due("and power", 3, b::sync);
        Due.due("and so has the first", 1, () -> a.node(1, 0));
    }

    public static void main(String[] args) {
        Due.holds("All are 0 at first", FileTermsEdgesTest::journalAtFirst);
        Due.holds("TO COMMIT, if n blocks (1 .. 24) are changed", FileTermsEdgesTest::commits);
        Due.holds("24 TARGETS (two bytes each, lowest first)", FileTermsEdgesTest::targets);
        Due.holds("TO RECOVER, if the count is above 0", FileTermsEdgesTest::recovers);
        Due.holds("the payload is written to the targets, in order; then the HEAD with the next sequence and all else 0", FileTermsEdgesTest::recoversOne);
        Due.holds("(Without a count nothing is written.)", FileTermsEdgesTest::nothingToRecover);
        Due.holds("number i is 32 bytes from 32 * (i mod 2) on in block 25 + i / 2", FileTermsEdgesTest::inodeBlocks);
        Due.holds("INODES 0 .. 63", FileTermsEdgesTest::lastInode);
        Due.holds("how many EXTENTS it has, 0 .. 8", FileTermsEdgesTest::extentsOfAnInode);
        Due.holds("its SIZE (two bytes, lowest first); of each extent its first block (two bytes, lowest first) and how many blocks (one, 1 .. 255)", FileTermsEdgesTest::sizesAndLengths);
        Due.holds("they are just as many as its size needs", FileTermsEdgesTest::blocksForASize);
        Due.holds("the bytes behind its size in the last one are 0", FileTermsEdgesTest::bytesBehindTheSize);
        Due.holds("the others, and all of a free one, are 0", FileTermsEdgesTest::freeInodes);
        Due.holds("of each extent its first block ... the others, ... are 0", FileTermsEdgesTest::extentsThatAreNone);
        Due.holds("The blocks of its extents, one behind the other, hold its bytes", FileTermsEdgesTest::extentsInTurn);
        Due.holds("those below 59, those in extents; the others below L are FREE", FileTermsEdgesTest::firstAndLastBlock);
        Due.holds("byte b / 8 mod 64 of block 57 + b / 512", FileTermsEdgesTest::bothBlocksOfTheMap);
        Due.holds("the one right behind its last one, if ... it is free", FileTermsEdgesTest::takesRightBehind);
        Due.holds("otherwise the least free one (perhaps that right behind), as an extent of its own", FileTermsEdgesTest::takesTheLeastFree);
        Due.holds("if there is that", FileTermsEdgesTest::takesAtTheEnd);
        Due.holds("and its extent has fewer than 255", FileTermsEdgesTest::fewerThan255);
        Due.holds("It cannot when there is none, or it would be a ninth extent", FileTermsEdgesTest::noNinthExtent);
        Due.holds("The block has 0s then", FileTermsEdgesTest::takenBlocksAre0);
        Due.holds("TO TAKE one block more for an inode: ... The block has 0s then", FileTermsEdgesTest::takenByADirectory);
        Due.holds("Blocks are given back from the end on", FileTermsEdgesTest::givenBackFromTheEnd);
        Due.holds("a NAME (1 .. 65535, two bytes, lowest first; 0 for an empty one)", FileTermsEdgesTest::namesOfTwoBytes);
        Due.holds("All bytes of an empty one are 0", FileTermsEdgesTest::emptyEntries);
        Due.holds("A new entry comes into the first empty one; without one the directory grows by a block", FileTermsEdgesTest::directoriesGrow);
        Due.holds("Its size is a multiple of 64", FileTermsEdgesTest::sizesOfDirectories);
        Due.holds("Inode 0 is the ROOT, a directory, of size 0 at first. It has no entry", FileTermsEdgesTest::root);
        Due.holds("A block is CHANGED if it is not below 25, taken, and its bytes ... differ", FileTermsEdgesTest::changedBlocks);
        Due.holds("OPERATIONS change all or nothing", FileTermsEdgesTest::allOrNothing);
        Due.holds("and leave more than 24 blocks changed commits first", FileTermsEdgesTest::moreThan24);
        Due.holds("One that would answer 0 or more", FileTermsEdgesTest::belowZeroCommitsNothing);
        Due.holds("if power is lost then, it is not done", FileTermsEdgesTest::powerLostFirst);
        Due.holds("-1 there is no such inode (it is free) or entry", FileTermsEdgesTest::noInodeOrEntry);
        Due.holds("-5 the inode is of another kind", FileTermsEdgesTest::otherKinds);
        Due.holds("-8 a place or size is out of bounds", FileTermsEdgesTest::outOfBounds);
        Due.holds("-9 power was lost, in a commit: the pool is off", FileTermsEdgesTest::powerLostInACommit);
        Due.holds("Of several exceptions the first one told is thrown", FileTermsEdgesTest::firstException);
        Due.holds("a call that throws changes nothing", FileTermsEdgesTest::throwingChangesNothing);
        Due.holds("The TAPE has at most 512 bytes, none at first (it stays while it is off)", FileTermsEdgesTest::tape);
        Due.holds("All memory is the class's own", FileTermsEdgesTest::ownMemory);
        Due.end();
    }
}
