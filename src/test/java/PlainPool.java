import java.util.ArrayList;
import java.util.Arrays;
import java.util.List;
import java.util.NoSuchElementException;

/**
 * The document once more, as slowly and plainly as it can be told, for RandomRunsTest to compare with:
 * cells are rows of 70 bytes with real checks, files are objects that are written out to blocks
 * whenever blocks are asked for, power goes by an exception, nothing is kept that can be reckoned.
 */
final class PlainPool {
    static final class PowerLost extends RuntimeException {
        private static final long serialVersionUID = 1L;
    }

    static final class Node {
        int kind;
        List<int[]> extents = new ArrayList<>();
        byte[] bytes = new byte[0];

        Node copy() {
            Node c = new Node();
            c.kind = kind;
            for (int[] e : extents) c.extents.add(e.clone());
            c.bytes = bytes.clone();
            return c;
        }

        List<Integer> blocks() {
            List<Integer> all = new ArrayList<>();
            for (int[] e : extents) for (int i = 0; i < e[1]; i++) all.add(e[0] + i);
            return all;
        }
    }

    final int n, k, rows, groups, blocks;
    final List<Integer> steps = new ArrayList<>();
    final byte[][][] cells, last;
    final boolean[] live;
    int[][] places;
    boolean on = true;
    int writes, lose, next, holes, operations, first;
    List<Byte> tape = new ArrayList<>();
    Node[] nodes = new Node[64];
    byte[][] committed;

    PlainPool(int disks, int width, int rowCount) {
        n = disks < 6 || disks > 16 ? 8 : disks;
        k = width < 3 || width > 8 || width >= n ? 3 : width;
        rows = rowCount < 48 || rowCount > 64 ? 48 : rowCount;
        groups = (n - 1) / k;
        blocks = rows * groups * (k - 1);
        for (int t = 1; t < n; t++) if (gcd(t, n) == 1) steps.add(t);
        cells = new byte[n][rows + 1][];
        last = new byte[n][rows + 1][];
        live = new boolean[n];
        Arrays.fill(live, true);
        for (int r = 0; r < rows; r++) {
            for (int p = 0; p < n; p++) set(disk(r, p), r, p < k * groups ? p + 1 : 0, new byte[64]);
        }
        for (int d = 0; d < n; d++) set(d, rows, 0, new byte[64]);
        for (int i = 0; i < 64; i++) nodes[i] = new Node();
        nodes[0].kind = 2;
        places = found();
        byte[][] all = written();
        for (int b = 25; b < blocks; b++) if (all[b] != null) writeBlock(b, all[b]);
        writes = 0;
        committed = volume();
    }

    static int gcd(int a, int b) { return b == 0 ? a : gcd(b, a % b); }

    int disk(int r, int p) { return (r + p * steps.get(r % steps.size())) % n; }

    static int check(byte[] bytes, int from, int count) {
        long v = 0xFFFFFFFFL;
        for (int i = 0; i < count; i++) {
            v ^= bytes[from + i] & 255;
            for (int j = 0; j < 8; j++) v = v % 2 == 1 ? v / 2 ^ 2197175160L : v / 2;
        }
        return (int) ~v;
    }

    static void number(byte[] to, int at, int count, long v) {
        for (int i = 0; i < count; i++) to[at + i] = (byte) (v >> 8 * i);
    }

    static int number(byte[] from, int at, int count) {
        int v = 0;
        for (int i = 0; i < count; i++) v |= (from[at + i] & 255) << 8 * i;
        return v;
    }

    void set(int d, int o, int tag, byte[] bytes) {
        byte[] c = Arrays.copyOf(bytes, 70);
        number(c, 64, 2, tag);
        number(c, 66, 4, check(c, 0, 66));
        cells[d][o] = c;
        last[d][o] = c.clone();
    }

    void put(int d, int o, int tag, byte[] bytes) {
        if (!live[d]) throw new AssertionError("a failed disk is written");
        if (lose > 0 && --lose == 0) throw new PowerLost();
        set(d, o, tag, bytes);
        writes++;
    }

    boolean valid(int d, int o) {
        byte[] c = cells[d][o];
        return live[d] && c != null && number(c, 66, 4) == check(c, 0, 66);
    }

    int tag(int d, int o) { return number(cells[d][o], 64, 2); }

    byte[] bytes(int d, int o) { return Arrays.copyOf(cells[d][o], 64); }

    static void xor(byte[] to, byte[] from) { for (int i = 0; i < 64; i++) to[i] ^= from[i]; }

    int[][] found() {
        int[][] f = new int[rows][k * groups];
        for (int r = 0; r < rows; r++) {
            for (int p = 0; p < k * groups; p++) {
                f[r][p] = -1;
                int home = disk(r, p);
                if (live[home] && cells[home][r] != null) { f[r][p] = home; continue; }
                for (int q = n - 1; q >= k * groups; q--) {
                    int d = disk(r, q);
                    if (valid(d, r) && tag(d, r) == p + 1) f[r][p] = d;
                }
            }
        }
        return f;
    }

    int[][] places() { return on ? places : found(); }

    int placeOf(int s, int j) { return places[s / groups][k * (s % groups) + j]; }

    boolean free(int[][] pl, int r, int q) {
        for (int d : pl[r]) if (d == disk(r, q)) return false;
        return true;
    }

    byte[] reckon(int s, int j) {
        byte[] x = new byte[64];
        for (int i = 0; i < k; i++) {
            if (i == j) continue;
            int d = placeOf(s, i);
            if (d < 0 || !valid(d, s / groups)) throw new AssertionError("two of a stripe");
            xor(x, bytes(d, s / groups));
        }
        return x;
    }

    byte[] column(int s, int j) {
        int d = placeOf(s, j);
        return d >= 0 && valid(d, s / groups) ? bytes(d, s / groups) : reckon(s, j);
    }

    byte[] block(int b) { return column(b / (k - 1), b % (k - 1)); }

    byte[][] volume() {
        byte[][] v = new byte[blocks][];
        for (int b = 0; b < blocks; b++) v[b] = block(b);
        return v;
    }

    void putColumn(int s, int j, byte[] bytes) {
        put(placeOf(s, j), s / groups, k * (s % groups) + j + 1, bytes);
    }

    void writeBlock(int b, byte[] bytes) {
        int s = b / (k - 1), j = b % (k - 1);
        byte[] pp = new byte[64];
        if (placeOf(s, k - 1) < 0) { putColumn(s, j, bytes); return; }
        for (int i = 0; i < k - 1; i++) if (i != j) xor(pp, column(s, i));
        byte[] all = pp.clone();
        xor(all, bytes);
        if (placeOf(s, j) < 0) { putColumn(s, k - 1, all); return; }
        int d = placeOf(s, k - 1);
        put(d, rows, 1 + 8 * s + j, pp);
        putColumn(s, j, bytes);
        putColumn(s, k - 1, all);
        put(d, rows, 0, new byte[64]);
    }

    void goOff() { on = false; lose = 0; }

    boolean open() {
        if (on) throw new IllegalStateException();
        next = 0;
        places = found();
        try {
            mend();
        } catch (PowerLost e) {
            goOff();
            return false;
        }
        committed = volume();
        parse();
        operations = 0;
        first = 0;
        on = true;
        return true;
    }

    void mend() {
        for (int d = 0; d < n; d++) {
            if (!valid(d, rows) || tag(d, rows) == 0) continue;
            int s = (tag(d, rows) - 1) / 8, j = (tag(d, rows) - 1) % 8;
            int e = placeOf(s, j);
            if (placeOf(s, k - 1) == d && e >= 0 && valid(e, s / groups)) {
                byte[] x = bytes(d, rows);
                xor(x, bytes(e, s / groups));
                putColumn(s, k - 1, x);
            }
            put(d, rows, 0, new byte[64]);
        }
        for (int r = 0; r < rows; r++) {
            for (int q = k * groups; q < n; q++) {
                int d = disk(r, q);
                if (free(places, r, q) && valid(d, r) && tag(d, r) > 0) put(d, r, 0, new byte[64]);
            }
        }
        byte[] head = block(0);
        int count = head[4];
        if (count == 0) return;
        byte[] payload = new byte[64 * count];
        for (int i = 0; i < count; i++) System.arraycopy(block(1 + i), 0, payload, 64 * i, 64);
        if (number(head, 59, 4) != check(payload, 0, 64 * count)) throw new AssertionError("the check");
        for (int i = 0; i < count; i++) {
            writeBlock(number(head, 5 + 2 * i, 2), Arrays.copyOfRange(payload, 64 * i, 64 * i + 64));
        }
        byte[] clean = new byte[64];
        number(clean, 0, 4, number(head, 0, 4) + 1);
        writeBlock(0, clean);
    }

    void parse() {
        for (int i = 0; i < 64; i++) {
            byte[] b = committed[25 + i / 2];
            int at = 32 * (i % 2);
            Node x = new Node();
            x.kind = b[at];
            for (int e = 0; e < b[at + 1]; e++) {
                x.extents.add(new int[] {number(b, at + 4 + 3 * e, 2), number(b, at + 6 + 3 * e, 1)});
            }
            x.bytes = new byte[number(b, at + 2, 2)];
            List<Integer> own = x.blocks();
            if (own.size() != (x.bytes.length + 63) / 64) throw new AssertionError("blocks");
            for (int z = 0; z < x.bytes.length; z++) x.bytes[z] = committed[own.get(z / 64)][z % 64];
            nodes[i] = x;
        }
        byte[][] all = written();
        for (int b = 25; b < blocks; b++) {
            if (all[b] != null && !Arrays.equals(all[b], committed[b])) throw new AssertionError("block " + b);
        }
    }

    /** The bytes of all taken blocks from 25 on, as operations left them; null for the others. */
    byte[][] written() {
        byte[][] all = new byte[blocks][];
        for (int b = 25; b < 59; b++) all[b] = new byte[64];
        for (int b = 0; b < 59; b++) all[57 + b / 512][b / 8 % 64] |= 1 << b % 8;
        for (int i = 0; i < 64; i++) {
            Node x = nodes[i];
            byte[] t = all[25 + i / 2];
            int at = 32 * (i % 2);
            t[at] = (byte) x.kind;
            t[at + 1] = (byte) x.extents.size();
            number(t, at + 2, 2, x.bytes.length);
            for (int e = 0; e < x.extents.size(); e++) {
                number(t, at + 4 + 3 * e, 2, x.extents.get(e)[0]);
                number(t, at + 6 + 3 * e, 1, x.extents.get(e)[1]);
            }
            List<Integer> own = x.blocks();
            for (int z = 0; z < own.size(); z++) {
                int b = own.get(z);
                all[b] = Arrays.copyOfRange(x.bytes, 64 * z, 64 * z + 64);
                all[57 + b / 512][b / 8 % 64] |= 1 << b % 8;
            }
        }
        return all;
    }

    List<Integer> changed() {
        List<Integer> c = new ArrayList<>();
        byte[][] all = written();
        for (int b = 25; b < blocks; b++) if (all[b] != null && !Arrays.equals(all[b], block(b))) c.add(b);
        return c;
    }

    int commit() {
        List<Integer> c = changed();
        byte[][] all = written();
        int count = c.size();
        if (count > 24) throw new AssertionError("too many");
        if (count > 0) {
            byte[] head = new byte[64];
            byte[] payload = new byte[64 * count];
            int sequence = number(block(0), 0, 4);
            number(head, 0, 4, sequence);
            head[4] = (byte) count;
            for (int i = 0; i < count; i++) {
                writeBlock(1 + i, all[c.get(i)]);
                System.arraycopy(all[c.get(i)], 0, payload, 64 * i, 64);
                number(head, 5 + 2 * i, 2, c.get(i));
            }
            number(head, 59, 4, check(payload, 0, payload.length));
            writeBlock(0, head);
            for (int b : c) writeBlock(b, all[b]);
            head = new byte[64];
            number(head, 0, 4, sequence + 1);
            writeBlock(0, head);
        }
        operations = 0;
        committed = volume();
        return count;
    }

    interface Work { int run(); }

    Node[] copies() {
        Node[] c = new Node[64];
        for (int i = 0; i < 64; i++) c[i] = nodes[i].copy();
        return c;
    }

    int operation(Work w) {
        Node[] before = copies();
        int a = w.run();
        if (a < 0) { nodes = before; return a; }
        if (changed().size() > 24) {
            nodes = before;
            try {
                commit();
            } catch (PowerLost e) {
                goOff();
                return -9;
            }
            first++;
            a = w.run();
        }
        operations++;
        return a;
    }

    void argument(boolean right) { if (!right) throw new IllegalArgumentException(); }

    void state(boolean right) { if (!right) throw new IllegalStateException(); }

    void inode(int i) { argument(i >= 0 && i <= 63); }

    void name(int i) { argument(i >= 1 && i <= 65535); }

    boolean isTaken(int b) {
        if (b < 59) return true;
        for (Node x : nodes) if (x.blocks().contains(b)) return true;
        return false;
    }

    boolean take(Node x) {
        if (!x.extents.isEmpty()) {
            int[] e = x.extents.get(x.extents.size() - 1);
            int b = e[0] + e[1];
            if (b < blocks && !isTaken(b) && e[1] < 255) { e[1]++; return true; }
        }
        int b = 59;
        while (b < blocks && isTaken(b)) b++;
        if (b == blocks || x.extents.size() == 8) return false;
        x.extents.add(new int[] {b, 1});
        return true;
    }

    boolean resize(Node x, int size) {
        while (x.blocks().size() < (size + 63) / 64) if (!take(x)) return false;
        while (x.blocks().size() > (size + 63) / 64) {
            int[] e = x.extents.get(x.extents.size() - 1);
            if (--e[1] == 0) x.extents.remove(x.extents.size() - 1);
        }
        x.bytes = Arrays.copyOf(x.bytes, size);
        return true;
    }

    int fault(int i, int kind) { return nodes[i].kind == 0 ? -1 : nodes[i].kind == kind ? 0 : -5; }

    int entry(int dir, int name) {
        byte[] b = nodes[dir].bytes;
        for (int at = 0; at < b.length; at += 4) if (number(b, at, 2) == name) return at;
        return -1;
    }

    boolean enter(int dir, int name, int i) {
        int at = entry(dir, 0);
        if (at < 0) {
            at = nodes[dir].bytes.length;
            if (!resize(nodes[dir], at + 64)) return false;
        }
        number(nodes[dir].bytes, at, 2, name);
        nodes[dir].bytes[at + 2] = (byte) i;
        return true;
    }

    boolean empty(int dir) {
        for (byte b : nodes[dir].bytes) if (b != 0) return false;
        return true;
    }

    boolean within(int dir, int top) {
        if (dir == top) return true;
        byte[] b = nodes[top].bytes;
        for (int at = 0; at < b.length; at += 4) {
            if (number(b, at, 2) != 0 && nodes[b[at + 2]].kind == 2 && within(dir, b[at + 2])) return true;
        }
        return false;
    }

    int feed(int c, long v) {
        argument(c >= 1 && c <= 8);
        state(tape.size() + c <= 512);
        for (int i = 0; i < c; i++) tape.add((byte) (v >> 8 * i));
        return tape.size();
    }

    int make(int dir, int name, boolean asDirectory) {
        inode(dir);
        name(name);
        state(on);
        return operation(() -> {
            if (fault(dir, 2) < 0) return fault(dir, 2);
            if (entry(dir, name) >= 0) return -2;
            int i = 0;
            while (i < 64 && nodes[i].kind != 0) i++;
            if (i == 64) return -3;
            nodes[i].kind = asDirectory ? 2 : 1;
            return enter(dir, name, i) ? i : -4;
        });
    }

    int find(int dir, int name) {
        inode(dir);
        name(name);
        state(on);
        if (fault(dir, 2) < 0) return fault(dir, 2);
        int at = entry(dir, name);
        return at < 0 ? -1 : nodes[dir].bytes[at + 2];
    }

    int write(int i, int offset) {
        inode(i);
        state(on);
        List<Byte> t = tape;
        tape = new ArrayList<>();
        return operation(() -> {
            if (fault(i, 1) < 0) return fault(i, 1);
            int size = nodes[i].bytes.length;
            if (offset < 0 || offset > size) return -8;
            if (!resize(nodes[i], Math.max(size, offset + t.size()))) return -4;
            for (int z = 0; z < t.size(); z++) nodes[i].bytes[offset + z] = t.get(z);
            return nodes[i].bytes.length;
        });
    }

    int cut(int i, int size) {
        inode(i);
        state(on);
        return operation(() -> {
            if (fault(i, 1) < 0) return fault(i, 1);
            if (size < 0 || size > nodes[i].bytes.length + 1024) return -8;
            return resize(nodes[i], size) ? size : -4;
        });
    }

    long read(int i, int offset) {
        inode(i);
        state(on);
        byte[] b = nodes[i].bytes;
        if (nodes[i].kind == 0 || offset < 0 || offset >= b.length) throw new NoSuchElementException();
        long v = 0;
        for (int z = 7; z >= 0; z--) v = v << 8 | (offset + z < b.length ? b[offset + z] & 255 : 0);
        return v;
    }

    int move(int dir, int name, int toDir, int toName) {
        inode(dir);
        name(name);
        inode(toDir);
        name(toName);
        state(on);
        return operation(() -> {
            if (fault(dir, 2) < 0) return fault(dir, 2);
            int at = entry(dir, name);
            if (at < 0) return -1;
            if (fault(toDir, 2) < 0) return fault(toDir, 2);
            int moved = nodes[dir].bytes[at + 2];
            int there = entry(toDir, toName);
            if (there >= 0) {
                if (dir == toDir && name == toName) return 0;
                int other = nodes[toDir].bytes[there + 2];
                if ((nodes[moved].kind == 2) != (nodes[other].kind == 2)) return -5;
                if (nodes[other].kind == 2 && !empty(other)) return -6;
            }
            if (nodes[moved].kind == 2 && within(toDir, moved)) return -7;
            if (there >= 0) {
                nodes[nodes[toDir].bytes[there + 2]] = new Node();
                nodes[toDir].bytes[there + 2] = (byte) moved;
                number(nodes[dir].bytes, at, 4, 0);
                return 0;
            }
            number(nodes[dir].bytes, at, 4, 0);
            return enter(toDir, toName, moved) ? 0 : -4;
        });
    }

    int remove(int dir, int name) {
        inode(dir);
        name(name);
        state(on);
        return operation(() -> {
            if (fault(dir, 2) < 0) return fault(dir, 2);
            int at = entry(dir, name);
            if (at < 0) return -1;
            int i = nodes[dir].bytes[at + 2];
            if (nodes[i].kind == 2 && !empty(i)) return -6;
            nodes[i] = new Node();
            number(nodes[dir].bytes, at, 4, 0);
            return 0;
        });
    }

    int powered(Work w) {
        state(on);
        try {
            return w.run();
        } catch (PowerLost e) {
            goOff();
            return -9;
        }
    }

    int sync() { return powered(this::commit); }

    void lose(int c) {
        argument(c >= 0);
        lose = c;
    }

    void off() {
        state(on);
        goOff();
    }

    boolean fail(int d) {
        argument(d >= 0 && d < n);
        if (!live[d]) return false;
        int[][] pl = places();
        for (int s = 0; s < rows * groups; s++) {
            int bad = 0;
            for (int j = 0; j < k; j++) {
                int e = pl[s / groups][k * (s % groups) + j];
                if (e < 0 || e == d || !valid(e, s / groups)) bad++;
            }
            if (bad > 1) return false;
        }
        live[d] = false;
        cells[d] = new byte[rows + 1][];
        for (int[] row : places) for (int p = 0; p < row.length; p++) if (row[p] == d) row[p] = -1;
        return true;
    }

    boolean replace(int d) {
        argument(d >= 0 && d < n);
        if (live[d]) return false;
        live[d] = true;
        return true;
    }

    boolean spoil(int d, int o, int at, int c, long mask) {
        argument(d >= 0 && d < n && o >= 0 && o < rows && c >= 1 && c <= 8 && at >= 0 && at <= 70 - c);
        boolean some = false;
        for (int i = 0; i < c; i++) some |= (mask >> 8 * i & 255) != 0;
        argument(some);
        if (!on || !live[d]) return false;
        int p = 0;
        while (p < k * groups && places[o][p] != d) p++;
        if (p == k * groups) return false;
        byte[] before = cells[d][o].clone();
        for (int i = 0; i < c; i++) cells[d][o][at + i] ^= (byte) (mask >> 8 * i);
        boolean refused = valid(d, o) && !Arrays.equals(cells[d][o], last[d][o]);
        int bad = 0;
        for (int q = p / k * k; q < p / k * k + k; q++) if (places[o][q] < 0 || !valid(places[o][q], o)) bad++;
        if (refused || bad > 1) { cells[d][o] = before; return false; }
        return true;
    }

    int rebuild() {
        return powered(() -> {
            for (int r = 0; r < rows; r++) {
                for (int p = 0; p < k * groups; p++) {
                    if (places[r][p] >= 0 || live[disk(r, p)]) continue;
                    for (int q = k * groups; q < n; q++) {
                        if (!free(places, r, q) || !live[disk(r, q)]) continue;
                        put(disk(r, q), r, p + 1, reckon(r * groups + p / k, p % k));
                        places[r][p] = disk(r, q);
                        return 1;
                    }
                }
            }
            return 0;
        });
    }

    int copyBack() {
        return powered(() -> {
            for (int r = 0; r < rows; r++) {
                for (int p = 0; p < k * groups; p++) {
                    int home = disk(r, p);
                    if (!live[home] || cells[home][r] != null) continue;
                    int old = places[r][p];
                    put(home, r, p + 1, column(r * groups + p / k, p % k));
                    places[r][p] = home;
                    if (old >= 0) put(old, r, 0, new byte[64]);
                    return 1;
                }
            }
            return 0;
        });
    }

    int scrub() {
        return powered(() -> {
            int s = next;
            next = s + 1 == rows * groups ? 0 : s + 1;
            byte[] x = new byte[64];
            boolean lost = false;
            for (int j = 0; j < k; j++) {
                int d = placeOf(s, j);
                if (d >= 0 && !valid(d, s / groups)) {
                    putColumn(s, j, reckon(s, j));
                    return 1;
                }
                lost |= d < 0;
                if (d >= 0) xor(x, bytes(d, s / groups));
            }
            if (!lost && !Arrays.equals(x, new byte[64])) holes++;
            return 0;
        });
    }

    int node(int i, int what) {
        inode(i);
        state(on);
        Node x = nodes[i];
        if (what == 0) return x.kind;
        if (what == 1) return x.bytes.length;
        if (what == 2) return x.extents.size();
        if (what < 0 || (what - 3) / 2 >= x.extents.size()) throw new NoSuchElementException();
        return x.extents.get((what - 3) / 2)[(what - 3) % 2];
    }

    int place(int r, int p) {
        argument(r >= 0 && r < rows && p >= 0 && p < k * groups);
        return places()[r][p];
    }

    int look(int what) {
        argument(what >= 0 && what <= 19);
        int count = 0;
        int[][] pl = places();
        if (what > 12 && !on) return -1;
        switch (what) {
            case 0: return on ? 1 : 0;
            case 1: return writes;
            case 2:
                for (int[] row : pl) for (int d : row) if (d < 0) count++;
                return count;
            case 3:
                for (int r = 0; r < rows; r++) for (int d : pl[r]) if (d >= 0 && !valid(d, r)) count++;
                return count;
            case 4:
                for (int r = 0; r < rows; r++) {
                    for (int q = k * groups; q < n; q++) if (live[disk(r, q)] && free(pl, r, q)) count++;
                }
                return count;
            case 5: return blocks;
            case 6: return holes;
            case 7: return rows * groups;
            case 8: return next;
            case 9: return k;
            case 10: return n;
            case 11:
                for (boolean l : live) if (l) count++;
                return count;
            case 12: return tape.size();
            case 13:
                byte[][] all = written();
                for (int b = 59; b < blocks; b++) if (all[b] == null) count++;
                return count;
            case 14:
                for (Node x : nodes) if (x.kind == 0) count++;
                return count;
            case 15: return changed().size();
            case 16: return operations;
            case 17: return first;
            case 18: return number(block(0), 0, 4);
            default:
                byte[][] mine = written();
                for (int b = 25; b < blocks; b++) {
                    byte[] there = block(b);
                    if (mine[b] != null && Arrays.equals(mine[b], there) && !Arrays.equals(there, committed[b])) count++;
                }
                return count;
        }
    }
}
