/** The promises about files: 2 to 10 and 20. */
public final class FilePromisesTest {
    private static void promise2() {
        DiskPool pool = new DiskPool(8, 3, 48);
        Due.due("feed none", Due.ARGUMENT, () -> pool.feed(0, 1));
        Due.due("feed nine", Due.ARGUMENT, () -> pool.feed(9, 1));
        Due.due("feed below 0", Due.ARGUMENT, () -> pool.feed(Integer.MIN_VALUE, 1));
        Due.due("feed three", 3, () -> pool.feed(3, 0x7F030201L));
        Due.due("feed eight", 11, () -> pool.feed(8, -2L));
        pool.make(0, 1, false);
        Due.due("write the tape", 11, () -> pool.write(1, 0));
        Due.due("lowest first", 0xFFFFFFFFFE030201L, () -> pool.read(1, 0));
        Due.due("the upper bytes too", 0xFFFFFFL, () -> pool.read(1, 8));
        for (int i = 0; i < 63; i++) pool.feed(8, i);
        Due.due("seven more", 511, () -> pool.feed(7, 0));
        Due.due("two above the bound", Due.STATE, () -> pool.feed(2, 0));
        Due.due("wrong n at the bound", Due.ARGUMENT, () -> pool.feed(9, 0));
        Due.due("nothing came", 511, () -> pool.look(12));
        Due.due("the last one", 512, () -> pool.feed(1, 0));
        Due.due("one above", Due.STATE, () -> pool.feed(1, 0));
        Pools.reopen(pool);
        Due.due("it stays while it is off", 512, () -> pool.look(12));
        pool.off();
        Due.due("it is told while it is off", 512, () -> pool.look(12));
        DiskPool other = new DiskPool(8, 3, 48);
        other.off();
        Due.due("fed while it is off", 2, () -> other.feed(2, 5));
    }

    private static void promise3() {
        DiskPool pool = new DiskPool(6, 3, 48);
        Due.due("a file", 1, () -> pool.make(0, 1, false));
        Due.due("a directory", 2, () -> pool.make(0, 65535, true));
        Due.due("its kind", 1, () -> pool.node(1, 0));
        Due.due("its kind", 2, () -> pool.node(2, 0));
        Due.due("a new one has no bytes", 0, () -> pool.node(2, 1) + pool.node(2, 2) + pool.node(1, 1));
        Due.due("the root has a block then", 64, () -> pool.node(0, 1));
        Due.due("the entries", 0x0002FFFF00010001L, () -> pool.read(0, 0));
        Due.due("no directory", -1, () -> pool.make(9, 1, false));
        Due.due("a file is none", -5, () -> pool.make(1, 1, false));
        Due.due("the name is there", -2, () -> pool.make(0, 1, true));
        Due.due("the same name elsewhere", 3, () -> pool.make(2, 1, true));
        Due.due("wrong inode", Due.ARGUMENT, () -> pool.make(64, 1, true));
        Due.due("wrong inode", Due.ARGUMENT, () -> pool.make(-1, 1, true));
        Due.due("wrong name", Due.ARGUMENT, () -> pool.make(0, 0, true));
        Due.due("wrong name", Due.ARGUMENT, () -> pool.make(0, 65536, true));
        for (int i = 4; i < 64; i++) {
            int inode = i;
            Due.due("the least free", inode, () -> pool.make(0, inode, false));
        }
        Due.due("no inode, but the name first", -2, () -> pool.make(0, 63, false));
        Due.due("no inode", -3, () -> pool.make(2, 2, false));
        Due.due("the root has four blocks", 256, () -> pool.node(0, 1));
        pool.remove(0, 30);
        Due.due("the one that is free", 30, () -> pool.make(0, 300, false));
        pool.off();
        Due.due("off", Due.STATE, () -> pool.make(0, 77, false));
        Due.due("off, and a wrong name", Due.ARGUMENT, () -> pool.make(0, 0, false));
        noBlockForAnEntry();
    }

    private static void noBlockForAnEntry() {
        DiskPool pool = new DiskPool(6, 3, 48);
        int full = Pools.file(pool, 1, 36 * 64);
        Due.due("all are taken", 0, () -> pool.look(13));
        for (int i = 2; i <= 16; i++) pool.make(0, i, false);
        Due.due("no block for an entry", -4, () -> pool.make(0, 17, false));
        Due.due("nothing is changed by that", 47, () -> pool.look(14));
        Due.due("the operations", 19, () -> pool.look(16));
        Due.due("an inode is not named", -1, () -> pool.find(0, 17));
        pool.cut(full, 0);
        Due.due("now there is one", 17, () -> pool.make(0, 17, false));
    }

    private static void promise4() {
        DiskPool pool = new DiskPool(7, 4, 50);
        pool.make(0, 500, true);
        pool.make(1, 501, false);
        Due.due("in the root", 1, () -> pool.find(0, 500));
        Due.due("in a directory", 2, () -> pool.find(1, 501));
        Due.due("not there", -1, () -> pool.find(0, 501));
        Due.due("no directory", -1, () -> pool.find(3, 501));
        Due.due("a file", -5, () -> pool.find(2, 501));
        Due.due("no operation", 2, () -> pool.look(16));
        Due.due("wrong inode", Due.ARGUMENT, () -> pool.find(64, 501));
        Due.due("wrong name", Due.ARGUMENT, () -> pool.find(0, 0));
        pool.off();
        Due.due("off", Due.STATE, () -> pool.find(0, 500));
        Due.due("off, wrong", Due.ARGUMENT, () -> pool.find(0, 65536));
    }

    private static void promise5() {
        DiskPool pool = new DiskPool(6, 3, 48);
        pool.make(0, 1, false);
        pool.make(0, 2, true);
        Due.due("an empty tape", 0, () -> pool.write(1, 0));
        Pools.feed(pool, 100, 7);
        Due.due("a hundred", 100, () -> pool.write(1, 0));
        Due.due("used up", 0, () -> pool.look(12));
        Pools.feed(pool, 4, 9);
        Due.due("in the middle", 100, () -> pool.write(1, 62));
        Due.due("over two blocks", 0x0707090909090707L, () -> pool.read(1, 60));
        Pools.feed(pool, 30, 8);
        Due.due("behind the end", 130, () -> pool.write(1, 100));
        Due.due("two at the end", 0x0808L, () -> pool.read(1, 128));
        Due.due("three blocks in one", 3, () -> pool.node(1, 4) * pool.node(1, 2));
        Pools.feed(pool, 5, 1);
        Due.due("above its size", -8, () -> pool.write(1, 131));
        Due.due("used up by that", 0, () -> pool.look(12));
        Due.due("below 0", -8, () -> pool.write(1, -1));
        Due.due("an empty one above", -8, () -> pool.write(1, Integer.MAX_VALUE));
        Pools.feed(pool, 5, 1);
        Due.due("a directory", -5, () -> pool.write(2, 0));
        Due.due("none", -1, () -> pool.write(3, 0));
        Pools.feed(pool, 5, 1);
        Due.due("wrong", Due.ARGUMENT, () -> pool.write(64, 0));
        Due.due("not used up", 5, () -> pool.look(12));
        pool.off();
        Due.due("off", Due.STATE, () -> pool.write(1, 0));
        Due.due("not used up", 5, () -> pool.look(12));
        noBlockToWrite();
        lostWhileWriting();
    }

    private static void noBlockToWrite() {
        DiskPool pool = new DiskPool(6, 3, 48);
        int inode = Pools.file(pool, 1, 33 * 64);
        Pools.feed(pool, 4 * 64, 5);
        Due.due("no block", -4, () -> pool.write(inode, 32 * 64 + 1));
        Due.due("used up", 0, () -> pool.look(12));
        Due.due("all or nothing", 33 * 64, () -> pool.node(inode, 1));
        Due.due("all or nothing", 0, () -> pool.read(inode, 32 * 64));
        Due.due("all or nothing", 3, () -> pool.look(13));
        Pools.feed(pool, 4 * 64 - 1, 5);
        Due.due("up to the last one", 36 * 64, () -> pool.write(inode, 32 * 64 + 1));
        Due.due("none is free", 0, () -> pool.look(13));
    }

    private static void lostWhileWriting() {
        DiskPool pool = new DiskPool(10, 3, 64);
        pool.make(0, 1, false);
        Pools.feed(pool, 512, 1);
        pool.write(1, 0);
        Pools.feed(pool, 512, 2);
        pool.write(1, 512);
        Pools.feed(pool, 256, 3);
        Due.due("three, a map and twenty", 1280, () -> pool.write(1, 1024));
        Due.due("changed", 23, () -> pool.look(15));
        Pools.feed(pool, 128, 4);
        pool.lose(100);
        Due.due("lost ahead of the writing", -9, () -> pool.write(1, 1280));
        Due.due("off", 0, () -> pool.look(0));
        Due.due("used up", 0, () -> pool.look(12));
        pool.open();
        Due.due("what was there before is committed", 1280, () -> pool.node(1, 1));
        Due.due("once", 1, () -> pool.look(18));
    }

    private static void promise6() {
        DiskPool pool = new DiskPool(6, 3, 48);
        pool.make(0, 1, false);
        pool.make(0, 2, true);
        Due.due("grows", 1024, () -> pool.cut(1, 1024));
        Due.due("sixteen blocks", 16, () -> pool.node(1, 4));
        Due.due("too far", -8, () -> pool.cut(1, 2049));
        Due.due("just so far", 2048, () -> pool.cut(1, 2048));
        Due.due("below 0", -8, () -> pool.cut(1, -1));
        Due.due("the most", -8, () -> pool.cut(1, Integer.MAX_VALUE));
        Due.due("the same", 2048, () -> pool.cut(1, 2048));
        Due.due("no block", -4, () -> pool.cut(1, 37 * 64));
        Due.due("nothing changed", 2048, () -> pool.node(1, 1));
        Due.due("the last block", 36 * 64, () -> pool.cut(1, 36 * 64));
        Due.due("shorter", 10, () -> pool.cut(1, 10));
        Due.due("given back", 35, () -> pool.look(13));
        Due.due("a directory", -5, () -> pool.cut(2, 0));
        Due.due("none", -1, () -> pool.cut(3, 0));
        Due.due("wrong", Due.ARGUMENT, () -> pool.cut(-1, 0));
        Pools.feed(pool, 10, 255);
        pool.write(1, 0);
        pool.cut(1, 3);
        pool.cut(1, 8);
        Due.due("0s behind a cut", 0xFFFFFFL, () -> pool.read(1, 0));
        pool.cut(1, 0);
        Due.due("without extents", 0, () -> pool.node(1, 2));
        Due.due("and so without bytes", Due.ELEMENT, () -> pool.read(1, 0));
        pool.off();
        Due.due("off", Due.STATE, () -> pool.cut(1, 0));
        taking();
        staleBlocks();
        longExtents();
    }

    /** Two files in turn, so that each block is an extent of its own. */
    private static void taking() {
        DiskPool pool = new DiskPool(8, 3, 48);
        pool.make(0, 1, false);
        pool.make(0, 2, false);
        for (int i = 1; i <= 8; i++) {
            pool.cut(1, 64 * i);
            pool.cut(2, 64 * i);
        }
        Due.due("eight extents", 8, () -> pool.node(1, 2));
        Due.due("the first", 60, () -> pool.node(1, 3));
        Due.due("the last", 74, () -> pool.node(1, 17));
        Due.due("of one", 1, () -> pool.node(1, 18));
        Due.due("no ninth", -4, () -> pool.cut(1, 64 * 8 + 1));
        Due.due("right behind is free", 640, () -> pool.cut(2, 640));
        Due.due("so the last one grows", 3, () -> pool.node(2, 18));
        pool.cut(1, 64);
        Due.due("the least free", 192, () -> pool.cut(1, 64 * 3));
        Due.due("is one of its own", 62, () -> pool.node(1, 5));
        Due.due("and the next", 64, () -> pool.node(1, 7));
        Due.due("given back from the end", 65, () -> pool.cut(1, 65));
        Due.due("two are left", 2, () -> pool.node(1, 2));
        Due.due("no third", Due.ELEMENT, () -> pool.node(1, 7));
    }

    /** A block that another file had has 0s. */
    private static void staleBlocks() {
        DiskPool pool = new DiskPool(8, 3, 48);
        pool.make(0, 1, false);
        Pools.feed(pool, 200, 255);
        pool.write(1, 0);
        pool.sync();
        pool.remove(0, 1);
        pool.make(0, 2, false);
        pool.cut(1, 200);
        for (int i = 0; i < 200; i += 8) {
            int at = i;
            Due.due("0s", 0, () -> pool.read(1, at));
        }
        Due.due("an entry, and four that are 0s now", 5, () -> pool.look(15));
        Due.due("so many", 5, pool::sync);
        Pools.reopen(pool);
        Due.due("0s still", 0, () -> pool.read(1, 192));
    }

    private static void longExtents() {
        DiskPool pool = new DiskPool(16, 5, 64);
        int inode = Pools.file(pool, 1, 300 * 64);
        Due.due("two extents", 2, () -> pool.node(inode, 2));
        Due.due("255 in one", 255, () -> pool.node(inode, 4));
        Due.due("the other right behind", 60 + 255, () -> pool.node(inode, 5));
        Due.due("with the rest", 45, () -> pool.node(inode, 6));
        int rest = Pools.file(pool, 2, 11 * 1024);
        int more = Pools.file(pool, 3, 11 * 1024);
        Due.due("over into the map's second block", 60 + 300 + 176, () -> pool.node(more, 3));
        pool.sync();
        int free = pool.look(13);
        Pools.reopen(pool);
        Due.due("as many are free", free, () -> pool.look(13));
        Due.due("all in all", 768 - 59 - 1 - 300 - 176 - 176, () -> pool.look(13));
        pool.remove(0, 2);
        Due.due("the gap is free", free + 176, () -> pool.look(13));
        Due.due("no bytes", Due.ELEMENT, () -> pool.read(rest, 0));
    }

    private static void promise7() {
        DiskPool pool = new DiskPool(6, 3, 48);
        pool.make(0, 258, false);
        pool.feed(8, 0x0102030405060708L);
        pool.feed(2, 0x0A09L);
        pool.write(1, 0);
        Due.due("lowest first", 0x0102030405060708L, () -> pool.read(1, 0));
        Due.due("0s behind the end", 0x0A090102L, () -> pool.read(1, 6));
        Due.due("the last byte", 0x0AL, () -> pool.read(1, 9));
        Due.due("no byte", Due.ELEMENT, () -> pool.read(1, 10));
        Due.due("no byte", Due.ELEMENT, () -> pool.read(1, -1));
        Due.due("no byte", Due.ELEMENT, () -> pool.read(1, Integer.MAX_VALUE));
        Due.due("free", Due.ELEMENT, () -> pool.read(2, 0));
        Due.due("a directory", 0x10102L, () -> pool.read(0, 0));
        Due.due("its end", 0, () -> pool.read(0, 63));
        Due.due("wrong", Due.ARGUMENT, () -> pool.read(64, 0));
        pool.sync();
        Due.due("from the volume", 0x0102030405060708L, () -> pool.read(1, 0));
        for (int d = 0; d < 6; d++) {
            pool.fail(d);
            Due.due("without a disk", 0x0102030405060708L, () -> pool.read(1, 0));
            pool.replace(d);
            while (pool.copyBack() == 1) Due.due("as it comes back", 0x0A09L, () -> pool.read(1, 8));
        }
        Due.due("no operation", 0, () -> pool.look(16));
        pool.off();
        Due.due("off ahead of none", Due.STATE, () -> pool.read(2, 0));
        Due.due("wrong ahead of off", Due.ARGUMENT, () -> pool.read(-1, 0));
    }

    private static DiskPool tree() {
        DiskPool pool = new DiskPool(8, 3, 48);
        pool.make(0, 1, true);   // 1
        pool.make(1, 2, true);   // 2, within 1
        pool.make(2, 3, true);   // 3, within 2
        pool.make(0, 4, false);  // 4
        pool.make(1, 5, false);  // 5
        pool.make(0, 6, true);   // 6
        return pool;
    }

    private static void promise8() {
        DiskPool pool = tree();
        Due.due("none", -1, () -> pool.move(9, 1, 0, 9));
        Due.due("a file", -5, () -> pool.move(4, 1, 0, 9));
        Due.due("no entry", -1, () -> pool.move(0, 9, 9, 9));
        Due.due("no such place", -1, () -> pool.move(0, 4, 9, 9));
        Due.due("the place is a file", -5, () -> pool.move(0, 4, 5, 9));
        Due.due("the same", 0, () -> pool.move(0, 4, 0, 4));
        Due.due("the same, a directory with entries", 0, () -> pool.move(0, 1, 0, 1));
        Due.due("a file onto a directory", -5, () -> pool.move(0, 4, 1, 2));
        Due.due("a directory onto a file", -5, () -> pool.move(0, 1, 1, 5));
        Due.due("a directory onto one with entries", -6, () -> pool.move(0, 6, 1, 2));
        Due.due("not empty ahead of into itself", -6, () -> pool.move(0, 1, 1, 2));
        Due.due("into itself", -7, () -> pool.move(0, 1, 1, 9));
        Due.due("into one within", -7, () -> pool.move(0, 1, 3, 9));
        Due.due("onto an empty one within", -7, () -> pool.move(0, 1, 2, 3));
        Due.due("onto an empty one", 0, () -> pool.move(2, 3, 0, 6));
        Due.due("it is there", 3, () -> pool.find(0, 6));
        Due.due("and not here", -1, () -> pool.find(2, 3));
        Due.due("the other is free", 0, () -> pool.node(6, 0));
        Due.due("out of one", 0, () -> pool.move(1, 2, 0, 2));
        Due.due("now it is not within", 0, () -> pool.move(0, 1, 2, 1));
        Due.due("but now", -7, () -> pool.move(0, 2, 1, 1));
        Due.due("wrong", Due.ARGUMENT, () -> pool.move(64, 1, 0, 1));
        Due.due("wrong", Due.ARGUMENT, () -> pool.move(0, 0, 0, 1));
        Due.due("wrong", Due.ARGUMENT, () -> pool.move(0, 1, -1, 1));
        Due.due("wrong", Due.ARGUMENT, () -> pool.move(0, 1, 0, 65536));
        pool.off();
        Due.due("off", Due.STATE, () -> pool.move(0, 1, 0, 2));
        Due.due("off, wrong", Due.ARGUMENT, () -> pool.move(0, 1, 0, 0));
        entriesOfMoves();
        noBlockToMove();
    }

    private static void entriesOfMoves() {
        DiskPool pool = new DiskPool(8, 3, 48);
        for (int i = 1; i <= 16; i++) pool.make(0, i, false);
        Pools.feed(pool, 65, 3);
        pool.write(5, 0);
        Due.due("its own entry is empty first", 0, () -> pool.move(0, 16, 0, 100));
        Due.due("so nothing grows", 64, () -> pool.node(0, 1));
        Due.due("and it is the last", 100 | 16 << 16, () -> pool.read(0, 60));
        int free = pool.look(13);
        Due.due("onto another", 0, () -> pool.move(0, 3, 0, 5));
        Due.due("the entry stays where it was", 5 | 3 << 16, () -> pool.read(0, 16) & 0xFFFFFFFFL);
        Due.due("the first is empty", 0, () -> pool.read(0, 8) & 0xFFFFFFFFL);
        Due.due("its blocks are given back", free + 2, () -> pool.look(13));
        Due.due("its inode", 0, () -> pool.node(5, 0) + pool.node(5, 1) + pool.node(5, 2));
        pool.move(0, 9, 0, 900);
        Due.due("into the first empty one", 900 | 9 << 16, () -> pool.read(0, 8) & 0xFFFFFFFFL);
    }

    private static void noBlockToMove() {
        DiskPool pool = new DiskPool(6, 3, 48);
        pool.make(0, 1, true);
        int inode = Pools.file(pool, 2, 36 * 64);
        Due.due("no block", -4, () -> pool.move(0, 2, 1, 2));
        Due.due("all or nothing", inode, () -> pool.find(0, 2));
        pool.cut(inode, 35 * 64);
        Due.due("with one", 0, () -> pool.move(0, 2, 1, 2));
        Due.due("it moved", inode, () -> pool.find(1, 2));
        Due.due("the directory's size stays", 64, () -> pool.node(0, 1));
    }

    private static void promise9() {
        DiskPool pool = tree();
        Pools.feed(pool, 130, 6);
        pool.write(4, 0);
        int free = pool.look(13);
        Due.due("none", -1, () -> pool.remove(9, 1));
        Due.due("a file", -5, () -> pool.remove(4, 1));
        Due.due("no entry", -1, () -> pool.remove(0, 9));
        Due.due("not empty", -6, () -> pool.remove(0, 1));
        Due.due("removed", 0, () -> pool.remove(0, 4));
        Due.due("its blocks are free", free + 3, () -> pool.look(13));
        Due.due("it is free", 0, () -> pool.node(4, 0) + pool.node(4, 1) + pool.node(4, 2));
        Due.due("the entry is empty", 0, () -> pool.read(0, 4) & 0xFFFFFFFFL);
        Due.due("it is no more", -1, () -> pool.remove(0, 4));
        Due.due("an empty directory", 0, () -> pool.remove(2, 3));
        Due.due("the directory's size stays", 64, () -> pool.node(2, 1));
        Due.due("empty with a block", 0, () -> pool.remove(1, 2));
        Due.due("which is free", free + 4, () -> pool.look(13));
        Due.due("wrong", Due.ARGUMENT, () -> pool.remove(64, 1));
        Due.due("wrong", Due.ARGUMENT, () -> pool.remove(0, 0));
        pool.off();
        Due.due("off", Due.STATE, () -> pool.remove(0, 1));
        Due.due("off, wrong", Due.ARGUMENT, () -> pool.remove(0, -1));
    }

    private static void promise10() {
        DiskPool pool = new DiskPool(6, 3, 48);
        Due.due("nothing", 0, pool::sync);
        Due.due("no sequence", 0, () -> pool.look(18));
        pool.make(0, 1, false);
        Due.due("one inode block, the root's block, the map", 3, pool::sync);
        Due.due("2 * 3 blocks and 2 heads, 4 writes each", 32, () -> pool.look(1));
        Due.due("a sequence", 1, () -> pool.look(18));
        pool.cut(1, 5);
        pool.cut(1, 0);
        Due.due("changed and changed back", 0, pool::sync);
        Due.due("no write", 32, () -> pool.look(1));
        pool.cut(1, 5);
        Due.due("one", 1, () -> pool.look(16));
        Due.due("0s where 0s were", 2, pool::sync);
        Due.due("none", 0, () -> pool.look(16));
        pool.write(1, 0);
        Due.due("one of nothing", 1, () -> pool.look(16));
        Due.due("a sync of nothing", 0, pool::sync);
        Due.due("is a commit", 0, () -> pool.look(16));
        pool.cut(1, 6);
        pool.lose(1);
        Due.due("lost", -9, pool::sync);
        Due.due("off", Due.STATE, pool::sync);
        Due.due("opened", true, pool.open());
        Due.due("not committed", 5, () -> pool.node(1, 1));
        atEveryWrite();
        commitsFirst();
        overTheBrim("make", 7, 2, p -> p.make(1, 9, false));
        overTheBrim("cut", 9, 2, p -> p.cut(6, 9));
        overTheBrim("move", 0, 1, p -> p.move(1, 5, 1, 9));
        overTheBrim("remove", 0, 2, p -> p.remove(1, 5));
        overTheBrim("write", 1, 3, p -> { p.feed(1, 1); return p.write(6, 0); });
    }

    /** Power goes at each write of a commit: all of it is there then, or nothing. */
    private static void atEveryWrite() {
        for (int n = 1; n <= 40; n++) {
            DiskPool pool = new DiskPool(6, 3, 48);
            pool.make(0, 7, false);
            pool.feed(1, 1);
            pool.write(1, 0);
            pool.lose(n);
            int at = n;
            Due.due("lost at " + n, -9, pool::sync);
            Due.due("done at " + n, at - 1, () -> pool.look(1));
            Due.due("opened", true, pool.open());
            // The head is there with the second of its writes, behind four blocks of four writes.
            boolean there = n > 4 * 4 + 2;
            Due.due("all or nothing at " + n, there ? 1 : -1, () -> pool.find(0, 7));
            Due.due("the sequence at " + n, there ? 1 : 0, () -> pool.look(18));
            Due.due("nothing is changed", 0, () -> pool.look(15));
        }
    }

    private static void commitsFirst() {
        DiskPool pool = new DiskPool(10, 3, 64);
        for (int i = 1; i <= 3; i++) pool.make(0, i, false);
        for (int i = 1; i <= 2; i++) {
            Pools.feed(pool, 512, i);
            pool.write(i, 0);
        }
        Pools.feed(pool, 256, 9);
        pool.write(3, 0);
        Due.due("just 24", 24, () -> pool.look(15));
        Due.due("six operations", 6, () -> pool.look(16));
        Due.due("one that is refused", -2, () -> pool.make(0, 1, false));
        Due.due("one of nothing", 256, () -> pool.write(3, 256));
        Due.due("none first", 0, () -> pool.look(17));
        Due.due("no writes", 0, () -> pool.look(1));
        Due.due("one too many", 4, () -> pool.make(0, 4, false));
        Due.due("first", 1, () -> pool.look(17));
        Due.due("50 blocks", 200, () -> pool.look(1));
        Due.due("itself", 2, () -> pool.look(15));
        Due.due("one since", 1, () -> pool.look(16));
        Due.due("the sequence", 1, () -> pool.look(18));
        Pools.reopen(pool);
        Due.due("since the opening", 0, () -> pool.look(17));
        Due.due("committed", 3, () -> pool.find(0, 3));
        Due.due("not committed", -1, () -> pool.find(0, 4));
    }

    private static void overTheBrim(String what, int answer, int changed, ToCall call) {
        DiskPool pool = Pools.brimful();
        int writes = pool.look(1);
        Due.due(what, answer, () -> call.of(pool));
        Due.due(what + ": first", 1, () -> pool.look(17));
        Due.due(what + ": 50 blocks", writes + 200, () -> pool.look(1));
        Due.due(what + ": itself", changed, () -> pool.look(15));
        Due.due(what + ": counted", 1, () -> pool.look(16));
        Pools.reopen(pool);
        Due.due(what + ": not committed", 2, () -> pool.find(1, 5));
        Due.due(what + ": not committed", 0, () -> pool.node(2, 1) + pool.node(6, 1));
        Due.due(what + ": what was there before is", 512, () -> pool.node(4, 1));
        DiskPool other = Pools.brimful();
        other.lose(1);
        Due.due(what + ": power lost", -9, () -> call.of(other));
        Due.due(what + ": off", 0, () -> other.look(0));
        other.open();
        Due.due(what + ": not done", 2, () -> other.find(1, 5));
        Due.due(what + ": nothing is committed", 0, () -> other.node(4, 1));
        Due.due(what + ": none first", 0, () -> other.look(17));
    }

    interface ToCall { long of(DiskPool pool); }

    private static void promise20() {
        DiskPool pool = new DiskPool(6, 3, 48);
        pool.make(0, 1, false);
        pool.cut(1, 65);
        int[] due = {1, 65, 1, 60, 2};
        for (int i = 0; i < due.length; i++) {
            int what = i;
            Due.due("node(1, " + i + ")", due[i], () -> pool.node(1, what));
        }
        Due.due("no extent", Due.ELEMENT, () -> pool.node(1, 5));
        Due.due("no what", Due.ELEMENT, () -> pool.node(1, -1));
        Due.due("no what", Due.ELEMENT, () -> pool.node(1, Integer.MAX_VALUE));
        Due.due("a free one", 0, () -> pool.node(2, 0) + pool.node(2, 1) + pool.node(2, 2));
        Due.due("has no extent", Due.ELEMENT, () -> pool.node(2, 3));
        Due.due("the root", 2, () -> pool.node(0, 0));
        Due.due("its block", 59, () -> pool.node(0, 3));
        Due.due("wrong", Due.ARGUMENT, () -> pool.node(64, 0));
        Due.due("wrong", Due.ARGUMENT, () -> pool.node(-1, -1));
        pool.off();
        Due.due("off ahead of none", Due.STATE, () -> pool.node(1, 5));
        Due.due("wrong ahead of off", Due.ARGUMENT, () -> pool.node(64, 5));
    }

    public static void main(String[] args) {
        promise2();
        promise3();
        promise4();
        promise5();
        promise6();
        promise7();
        promise8();
        promise9();
        promise10();
        promise20();
        Due.end();
    }
}
