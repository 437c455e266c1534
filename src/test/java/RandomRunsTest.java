import java.util.NoSuchElementException;
import java.util.Random;

/**
 * Random runs of calls, each answered by DiskPool as by PlainPool, its plain twin. A run ends with its
 * 512th call, as the document leaves free what later ones answer; a third argument lets it be longer.
 */
public final class RandomRunsTest {
    interface Call { long of(); }

    private static final int MOST_CALLS = 512;

    private final Random random;
    private final DiskPool pool;
    private final PlainPool plain;
    private final StringBuilder told = new StringBuilder();
    private final int disks, width, rows;
    private final int mood;
    private final int mostCalls;
    private int calls;
    private boolean wrong;

    RandomRunsTest(long seed, int mostCalls) {
        random = new Random(seed);
        this.mostCalls = mostCalls;
        disks = random.nextInt(30) == 0 ? random.nextInt(40) - 10 : 6 + random.nextInt(11);
        width = random.nextInt(30) == 0 ? random.nextInt(20) - 5 : 3 + random.nextInt(6);
        rows = random.nextInt(30) == 0 ? random.nextInt(100) : 48 + random.nextInt(17);
        mood = random.nextInt(4);
        pool = new DiskPool(disks, width, rows);
        plain = new PlainPool(disks, width, rows);
        told.append("new DiskPool(").append(disks).append(", ").append(width).append(", ").append(rows).append(")\n");
    }

    private static String answer(Call call) {
        try {
            return Long.toString(call.of());
        } catch (IllegalArgumentException | IllegalStateException | NoSuchElementException e) {
            return "throws." + e.getClass().getSimpleName();
        }
    }

    /** The answer; an empty text when the run has come to its end. */
    private String same(String name, Call a, Call b) {
        if (calls >= mostCalls || wrong) return "";
        calls++;
        String got = answer(a);
        String due = answer(b);
        told.append(name).append(" = ").append(got).append('\n');
        if (!got.equals(due)) {
            told.append("  due is ").append(due).append('\n');
            wrong = true;
        }
        return got;
    }

    private int inode() {
        if (random.nextInt(60) == 0) return random.nextInt(90) - 10;
        return random.nextInt(8) == 0 ? random.nextInt(64) : ofKind(1);
    }

    private int directory() { return random.nextInt(12) == 0 ? inode() : ofKind(2); }

    /** An inode of a kind, if there is one not far behind a random one. */
    private int ofKind(int kind) {
        int i = random.nextInt(64);
        for (int tries = 0; tries < 64 && plain.nodes[i].kind != kind; tries++) i = (i + 1) % 64;
        return i;
    }

    private int name() {
        if (random.nextInt(100) == 0) return new int[] {0, -1, 65535, 65536, 256, 255, Integer.MIN_VALUE}[random.nextInt(7)];
        return 1 + random.nextInt(mood == 2 ? 70 : 9) * 257;
    }

    /** Mostly the name of an entry that is there. */
    private int nameIn(int directory) {
        if (random.nextInt(3) > 0 && directory >= 0 && directory < 64 && plain.nodes[directory].kind == 2) {
            byte[] entries = plain.nodes[directory].bytes;
            for (int tries = 0; tries < 8 && entries.length > 0; tries++) {
                int name = PlainPool.number(entries, 4 * random.nextInt(entries.length / 4), 2);
                if (name != 0) return name;
            }
        }
        return name();
    }

    private static long one(boolean b) { return b ? 1 : 0; }

    private void fileCall() {
        int kind = random.nextInt(mood == 2 ? 24 : 14);
        boolean made = kind < 3 || kind > 13;
        int i = inode(), d = directory(), m = made ? name() : nameIn(d);
        switch (made ? 0 : kind) {
            case 0:
                boolean dir = random.nextInt(3) == 0;
                same("make " + d + " " + m + " " + dir, () -> pool.make(d, m, dir), () -> plain.make(d, m, dir));
                break;
            case 3:
                same("find " + d + " " + m, () -> pool.find(d, m), () -> plain.find(d, m));
                break;
            case 4: case 5: case 6:
                if (random.nextInt(3) == 0) sprinkle(i);
                else feedAndWrite(i, random.nextInt(random.nextInt(12) == 0 ? 80 : 5), offset(i));
                break;
            case 7: case 8:
                int size = size(i);
                same("cut " + i + " " + size, () -> pool.cut(i, size), () -> plain.cut(i, size));
                break;
            case 9:
                int at = offset(i);
                same("read " + i + " " + at, () -> pool.read(i, at), () -> plain.read(i, at));
                break;
            case 10: case 11: case 12:
                int to = random.nextInt(3) == 0 ? d : directory(), toName = nameIn(to);
                same("move " + d + " " + m + " " + to + " " + toName, () -> pool.move(d, m, to, toName), () -> plain.move(d, m, to, toName));
                break;
            default:
                same("remove " + d + " " + m, () -> pool.remove(d, m), () -> plain.remove(d, m));
        }
    }

    private void feedAndWrite(int i, int feeds, int from) {
        for (int z = feeds; z > 0; z--) {
            int n = random.nextInt(60) == 0 ? random.nextInt(12) - 1 : 8 - random.nextInt(1 + random.nextInt(8));
            long v = random.nextInt(4) == 0 ? 0 : random.nextLong();
            same("feed " + n + " " + v, () -> pool.feed(n, v), () -> plain.feed(n, v));
        }
        same("write " + i + " " + from, () -> pool.write(i, from), () -> plain.write(i, from));
    }

    /** A few bytes over the edges of many blocks: by that many are changed in few calls. */
    private void sprinkle(int i) {
        int blocks = length(i) / 64;
        for (int b = 1 + random.nextInt(3); b < blocks; b += 2 + random.nextInt(2)) feedAndWrite(i, 1, 64 * b - random.nextInt(9));
    }

    private int length(int i) { return i >= 0 && i < 64 ? plain.nodes[i].bytes.length : 0; }

    private int offset(int i) {
        int kind = random.nextInt(20);
        if (kind == 0) return new int[] {-1, length(i) + 1, Integer.MAX_VALUE, Integer.MIN_VALUE}[random.nextInt(4)];
        return kind < 6 ? length(i) : random.nextInt(length(i) + 1);
    }

    private int size(int i) {
        int kind = random.nextInt(20);
        if (kind == 0) return new int[] {-1, length(i) + 1025, Integer.MAX_VALUE, Integer.MIN_VALUE}[random.nextInt(4)];
        if (kind < (mood == 3 ? 12 : 3)) return length(i) + 1024;
        return kind < 12 ? length(i) + random.nextInt(1025) : random.nextInt(length(i) + 1);
    }

    private int disk() {
        return random.nextInt(40) == 0 ? random.nextInt(30) - 7 : random.nextInt(plain.n);
    }

    /** Mostly one that is failed, if there is one. */
    private int failedDisk() {
        int disk = random.nextInt(plain.n);
        for (int tries = 0; tries < plain.n && plain.live[disk]; tries++) disk = (disk + 1) % plain.n;
        return random.nextInt(8) == 0 ? disk() : disk;
    }

    /** Steps of rebuilding or copying back, some or all of those that are to be done. */
    private void steps(String name, Call a, Call b) {
        int most = random.nextInt(3) == 0 ? 100 : random.nextInt(12);
        for (int z = 0; z <= most; z++) if (!same(name, a, b).equals("1")) return;
    }

    private void replace() {
        int d = failedDisk();
        same("replace " + d, () -> one(pool.replace(d)), () -> one(plain.replace(d)));
    }

    private void rackCall() {
        int d = disk();
        switch (random.nextInt(13)) {
            case 0:
                int n = random.nextInt(10) == 0 ? random.nextInt(4) - 2 : 1 + random.nextInt(random.nextInt(2) == 0 ? 6 : 150);
                same("lose " + n, () -> { pool.lose(n); return 0; }, () -> { plain.lose(n); return 0; });
                break;
            case 1:
                if (random.nextInt(2) == 0) same("off", () -> { pool.off(); return 0; }, () -> { plain.off(); return 0; });
                break;
            case 2: case 3:
                if (random.nextInt(mood == 0 ? 6 : 1) == 0) same("fail " + d, () -> one(pool.fail(d)), () -> one(plain.fail(d)));
                break;
            case 4:
                replace();
                break;
            case 5: case 6:
                for (int z = random.nextInt(12); z >= 0; z--) spoil(random.nextInt(40) == 0 ? d : random.nextInt(plain.n));
                break;
            case 7: case 8:
                steps("rebuild", pool::rebuild, plain::rebuild);
                break;
            case 9: case 10:
                steps("copyBack", pool::copyBack, plain::copyBack);
                break;
            case 11:
                for (int z = random.nextInt(random.nextInt(4) == 0 ? 90 : 12); z >= 0; z--) same("scrub", pool::scrub, plain::scrub);
                break;
            default:
                same("sync", pool::sync, plain::sync);
        }
    }

    private void offCall() {
        int d = random.nextInt(plain.n);
        int n = 1 + random.nextInt(random.nextInt(2) == 0 ? 6 : 150);
        switch (random.nextInt(5)) {
            case 0: case 1:
                same("lose " + n, () -> { pool.lose(n); return 0; }, () -> { plain.lose(n); return 0; });
                break;
            case 2:
                same("fail " + d, () -> one(pool.fail(d)), () -> one(plain.fail(d)));
                break;
            case 3:
                replace();
                break;
            default:
                if (random.nextInt(4) == 0) lookAtAll();
                else if (random.nextInt(4) == 0) lookAtFiles();
                else if (random.nextInt(4) == 0) rackCall();
                else if (random.nextInt(4) == 0) fileCall();
                else lookCall();
        }
    }

    private int lastDisk, lastOffset, lastAt, lastN;
    private long lastMask;

    private void spoil(int d) {
        int disk = d, o = random.nextInt(random.nextBoolean() ? plain.rows : 6), n = 1 + random.nextInt(8);
        int at = random.nextInt(71 - n);
        long mask = random.nextLong();
        int kind = random.nextInt(24);
        if (kind == 0) at = random.nextInt(90) - 10;
        if (kind == 1) o = plain.rows + random.nextInt(3) - 1;
        if (kind == 2) n = random.nextInt(14) - 3;
        if (kind == 3) mask = mask << 8 * random.nextInt(9);
        if (kind == 4 || kind == 5) { disk = lastDisk; o = lastOffset; n = lastN; at = lastAt; mask = lastMask; }
        if (kind == 6 || kind == 7) { n = 8; at = 62; mask = forged(random.nextInt()); }
        if (kind == 8) { disk = lastDisk; o = lastOffset; }
        lastDisk = disk; lastOffset = o; lastN = n; lastAt = at; lastMask = mask;
        int fd = disk, fo = o, fn = n, fa = at;
        long fm = mask;
        same("spoil " + fd + " " + fo + " " + fa + " " + fn + " " + fm,
            () -> one(pool.spoil(fd, fo, fa, fn, fm)), () -> one(plain.spoil(fd, fo, fa, fn, fm)));
    }

    /** A mask for the bytes 62 .. 69 that leaves the check right. */
    private static long forged(int change) {
        byte[] a = new byte[66], b = new byte[66];
        PlainPool.number(b, 62, 4, change);
        int check = PlainPool.check(a, 0, 66) ^ PlainPool.check(b, 0, 66);
        return change & 0xFFFFFFFFL | (long) check << 32;
    }

    /** How many whats node has for an inode. */
    private int whats(int i) { return i >= 0 && i < 64 ? 3 + 2 * plain.nodes[i].extents.size() : 3; }

    private void lookCall() {
        int i = inode(), what = random.nextInt(whats(i) + 3) - 1;
        same("node " + i + " " + what, () -> pool.node(i, what), () -> plain.node(i, what));
        int r = random.nextInt(plain.rows + 2) - 1, p = random.nextInt(plain.n + 2) - 1;
        same("place " + r + " " + p, () -> pool.place(r, p), () -> plain.place(r, p));
    }

    private void lookAtAll() {
        for (int w = -1; w <= 20; w++) {
            int what = w;
            same("look " + what, () -> pool.look(what), () -> plain.look(what));
        }
    }

    /** Inodes that are not free, from a random one on, and some places, as far as calls are left. */
    private void lookAtFiles() {
        int first = random.nextInt(64);
        for (int i = 0; i < 64 && plain.on; i++) {
            int inode = (first + i) % 64;
            if (plain.nodes[inode].kind != 0 || random.nextInt(30) == 0) lookAtFile(inode);
        }
        for (int i = 0; i < 20; i++) lookCall();
    }

    private void lookAtFile(int inode) {
        for (int w = 0; w <= whats(inode); w++) {
            int what = w;
            same("node " + inode + " " + w, () -> pool.node(inode, what), () -> plain.node(inode, what));
        }
        for (int at = random.nextInt(64); at <= length(inode); at += 1 + random.nextInt(128)) {
            int from = at;
            same("read " + inode + " " + at, () -> pool.read(inode, from), () -> plain.read(inode, from));
        }
    }

    private boolean run() {
        int rack = new int[] {1, 5, 1, 3}[mood];
        int part = mostCalls / 4 + random.nextInt(mostCalls * 3 / 4);
        while (calls < part && !wrong) {
            int kind = random.nextInt(10);
            if (!plain.on) {
                while (random.nextInt(2) == 0) offCall();
                same("open", () -> one(pool.open()), () -> one(plain.open()));
            }
            if (kind < rack) rackCall();
            else if (kind == 9) lookCall();
            else fileCall();
            if (random.nextInt(40) == 0) lookAtAll();
            if (random.nextInt(200) == 0) same("open", () -> one(pool.open()), () -> one(plain.open()));
        }
        lookAtAll();
        lookAtFiles();
        return !wrong;
    }

    public static void main(String[] args) {
        int runs = args.length > 0 ? Integer.parseInt(args[0]) : 3000;
        long base = args.length > 1 ? Long.parseLong(args[1]) : 0;
        int mostCalls = args.length > 2 ? Integer.parseInt(args[2]) : MOST_CALLS;
        long calls = 0;
        for (long seed = base; seed < base + runs; seed++) {
            RandomRunsTest test = new RandomRunsTest(seed, mostCalls);
            if (!test.run()) {
                String[] lines = test.told.toString().split("\n");
                System.out.println("seed " + seed + ", " + lines[0]);
                for (int i = Math.max(1, lines.length - 25); i < lines.length; i++) System.out.println(lines[i]);
                System.exit(1);
            }
            calls += test.calls;
        }
        System.out.println(runs + " random runs, " + calls + " calls: all answers are as due");
    }
}
