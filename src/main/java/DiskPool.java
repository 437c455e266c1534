import java.util.NoSuchElementException;

/** A pool of disks with a tree of files on top; ../shared/DOC.md says what each call must do. */
public final class DiskPool {
    private static final int NONE = -1;

    private static final int BYTES = 64;
    private static final int WORDS = 8;

    private static final int ABSENT = -1;
    private static final int NAME_IN_USE = -2;
    private static final int NO_INODE = -3;
    private static final int NO_BLOCK = -4;
    private static final int OTHER_KIND = -5;
    private static final int NOT_EMPTY = -6;
    private static final int INTO_ITSELF = -7;
    private static final int OUT_OF_BOUNDS = -8;
    private static final int POWER_LOST = -9;

    private static final int FREE = 0;
    private static final int FILE = 1;
    private static final int DIRECTORY = 2;

    private static final int MOST_CHANGED = 24;
    private static final int INODE_BLOCK = 25;
    private static final int MAP_BLOCK = 57;
    private static final int FILE_BLOCK = 59;
    private static final int INODES = 64;
    private static final int MOST_NAME = 65535;
    private static final int MOST_GROWTH = 1024;
    private static final int TAPE = 512;
    private static final int CELL_BYTES = 70;
    private static final int LONG_BITS = 64;

    private final Layout layout;
    private final Rack rack;
    private final Volume volume;
    private final Upkeep upkeep;
    private final Image image;
    private final Inodes inodes;
    private final Tree tree;
    private final Journal journal;
    private final byte[] tape;
    private final long[] seen;
    private int tapeLength;
    private boolean on;
    private int operations;
    private int firstCommits;

    public DiskPool(int disks, int width, int rows) {
        int realDisks = disks >= 6 && disks <= 16 ? disks : 8;
        int realWidth = width >= 3 && width <= 8 && width < realDisks ? width : 3;
        int realRows = rows >= 48 && rows <= 64 ? rows : 48;
        layout = new Layout(realDisks, realWidth, realRows);
        rack = new Rack(realDisks, realRows);
        volume = new Volume(layout, rack);
        upkeep = new Upkeep(layout, rack, volume);
        image = new Image(layout.blocks);
        inodes = new Inodes(image);
        tree = new Tree(image, inodes);
        journal = new Journal(layout, volume, image);
        tape = new byte[TAPE];
        seen = new long[WORDS];
        volume.layOut();
        image.layOut();
        volume.store(INODE_BLOCK, image.held, WORDS * INODE_BLOCK);
        volume.store(MAP_BLOCK, image.held, WORDS * MAP_BLOCK);
        image.settle();
        rack.forgetWrites();
        on = true;
    }

    public int feed(int n, long v) throws IllegalArgumentException, IllegalStateException {
        if (n < 1 || n > 8) {
            throw new IllegalArgumentException("n is not 1 .. 8");
        }
        if (tapeLength + n > TAPE) {
            throw new IllegalStateException("the tape is full");
        }
        for (int i = 0; i < n; i++) {
            tape[tapeLength + i] = (byte) (v >>> (8 * i));
        }
        tapeLength += n;
        return tapeLength;
    }

    public int make(int directory, int name, boolean asDirectory)
            throws IllegalArgumentException, IllegalStateException {
        requireInode(directory);
        requireName(name);
        requireOn();
        int kind = asDirectory ? DIRECTORY : FILE;
        int answer = tree.addNew(directory, name, kind);
        if (overflows(answer)) {
            answer = commitFirst() ? tree.addNew(directory, name, kind) : POWER_LOST;
        }
        return finished(answer);
    }

    public int find(int directory, int name) throws IllegalArgumentException, IllegalStateException {
        requireInode(directory);
        requireName(name);
        requireOn();
        return tree.inodeOf(directory, name);
    }

    public int write(int inode, int offset) throws IllegalArgumentException, IllegalStateException {
        requireInode(inode);
        requireOn();
        int length = tapeLength;
        tapeLength = 0;
        int answer = tree.writeBytes(inode, offset, tape, length);
        if (overflows(answer)) {
            answer = commitFirst() ? tree.writeBytes(inode, offset, tape, length) : POWER_LOST;
        }
        return finished(answer);
    }

    public int cut(int inode, int size) throws IllegalArgumentException, IllegalStateException {
        requireInode(inode);
        requireOn();
        int answer = tree.changeSize(inode, size);
        if (overflows(answer)) {
            answer = commitFirst() ? tree.changeSize(inode, size) : POWER_LOST;
        }
        return finished(answer);
    }

    public long read(int inode, int offset)
            throws IllegalArgumentException, IllegalStateException, NoSuchElementException {
        requireInode(inode);
        requireOn();
        // A free inode has the size 0, so it has no byte anywhere.
        int size = inodes.sizeOf(inode);
        if (offset < 0 || offset >= size) {
            throw new NoSuchElementException("no byte is there");
        }
        int end = Math.min(offset + 8, size);
        long number = 0;
        for (int at = offset; at < end; at++) {
            if (at == offset || at % BYTES == 0) {
                see(inodes.blockOf(inode, at / BYTES));
            }
            number |= (long) Bytes.one(seen, 0, at % BYTES) << (8 * (at - offset));
        }
        return number;
    }

    public int move(int directory, int name, int toDirectory, int toName)
            throws IllegalArgumentException, IllegalStateException {
        requireInode(directory);
        requireName(name);
        requireInode(toDirectory);
        requireName(toName);
        requireOn();
        int answer = tree.moveEntry(directory, name, toDirectory, toName);
        if (overflows(answer)) {
            answer = commitFirst() ? tree.moveEntry(directory, name, toDirectory, toName) : POWER_LOST;
        }
        return finished(answer);
    }

    public int remove(int directory, int name) throws IllegalArgumentException, IllegalStateException {
        requireInode(directory);
        requireName(name);
        requireOn();
        int answer = tree.removeEntry(directory, name);
        if (overflows(answer)) {
            answer = commitFirst() ? tree.removeEntry(directory, name) : POWER_LOST;
        }
        return finished(answer);
    }

    public int sync() throws IllegalStateException {
        requireOn();
        int answer = journal.commit();
        operations = 0;
        return offIfLost(answer);
    }

    public void lose(int n) throws IllegalArgumentException {
        if (n < 0) {
            throw new IllegalArgumentException("n is below 0");
        }
        rack.loseAt(n);
    }

    public void off() throws IllegalStateException {
        requireOn();
        goOff();
    }

    public boolean open() throws IllegalStateException {
        if (on) {
            throw new IllegalStateException("it is on");
        }
        upkeep.startAnew();
        boolean done = upkeep.settleLogs() && upkeep.wipeFreeSpares() && journal.recover();
        if (!done) {
            goOff();
            return false;
        }
        image.fillFrom(volume);
        operations = 0;
        firstCommits = 0;
        on = true;
        return true;
    }

    public boolean fail(int disk) throws IllegalArgumentException {
        requireDisk(disk);
        if (!rack.isLive(disk) || !volume.canMiss(disk)) {
            return false;
        }
        rack.takeOut(disk);
        volume.forgetPlacesOn(disk);
        if (!on) {
            volume.findPlaces();
        }
        return true;
    }

    public boolean replace(int disk) throws IllegalArgumentException {
        requireDisk(disk);
        if (rack.isLive(disk)) {
            return false;
        }
        rack.putIn(disk);
        return true;
    }

    public boolean spoil(int disk, int offset, int at, int n, long mask) throws IllegalArgumentException {
        requireDisk(disk);
        if (offset < 0 || offset >= layout.rows || n < 1 || n > 8) {
            throw new IllegalArgumentException("no such cell, or n is not 1 .. 8");
        }
        if (at < 0 || at > CELL_BYTES - n || mask << (LONG_BITS - 8 * n) == 0) {
            throw new IllegalArgumentException("the bytes are not all in the cell, or the mask is 0");
        }
        int spot = on ? volume.spotOn(offset, disk) : NONE;
        if (spot == NONE) {
            return false;
        }
        rack.draftFlaw(disk, offset, at, n, mask);
        if (rack.draftIsForged() || (rack.draftIsFlaw() && volume.hasFaultBeside(spot))) {
            return false;
        }
        rack.keepFlaw(disk, offset);
        return true;
    }

    public int rebuild() throws IllegalStateException {
        requireOn();
        return offIfLost(upkeep.rebuildStep());
    }

    public int copyBack() throws IllegalStateException {
        requireOn();
        return offIfLost(upkeep.copyBackStep());
    }

    public int scrub() throws IllegalStateException {
        requireOn();
        return offIfLost(upkeep.scrubStep());
    }

    public int node(int inode, int what)
            throws IllegalArgumentException, IllegalStateException, NoSuchElementException {
        requireInode(inode);
        requireOn();
        if (what < 0 || what >= 3 + 2 * inodes.extentsOf(inode)) {
            throw new NoSuchElementException("no such extent or what");
        }
        switch (what) {
            case 0:
                return inodes.kindOf(inode);
            case 1:
                return inodes.sizeOf(inode);
            case 2:
                return inodes.extentsOf(inode);
            default:
                int extent = (what - 3) / 2;
                return what % 2 == 1 ? inodes.firstOf(inode, extent) : inodes.lengthOf(inode, extent);
        }
    }

    public int place(int row, int position) throws IllegalArgumentException {
        if (row < 0 || row >= layout.rows || position < 0 || position >= layout.positions) {
            throw new IllegalArgumentException("no such row, or the position is none of a stripe");
        }
        return volume.placeOf(row * layout.positions + position);
    }

    public int look(int what) throws IllegalArgumentException {
        if (what < 0 || what > 19) {
            throw new IllegalArgumentException("what is not 0 .. 19");
        }
        if (what <= 12) {
            return lookAtRack(what);
        }
        return on ? lookAtFiles(what) : -1;
    }

    private int lookAtRack(int what) {
        switch (what) {
            case 0:
                return on ? 1 : 0;
            case 1:
                return rack.countWrites();
            case 2:
                return volume.countLost();
            case 3:
                return volume.countSpoilt();
            case 4:
                return volume.countFreeSpares();
            case 5:
                return layout.blocks;
            case 6:
                return upkeep.countHoles();
            case 7:
                return layout.stripes;
            case 8:
                return upkeep.nextStripe();
            case 9:
                return layout.width;
            case 10:
                return layout.disks;
            case 11:
                return rack.countLive();
            default:
                return tapeLength;
        }
    }

    private int lookAtFiles(int what) {
        switch (what) {
            case 13:
                return image.countFree();
            case 14:
                return inodes.countFree();
            case 15:
                return image.countChanged();
            case 16:
                return operations;
            case 17:
                return firstCommits;
            case 18:
                return journal.sequenceNow();
            default:
                return image.countStrayed(volume);
        }
    }

    private void requireInode(int inode) {
        if (inode < 0 || inode >= INODES) {
            throw new IllegalArgumentException("an inode is not 0 .. 63");
        }
    }

    private void requireName(int name) {
        if (name < 1 || name > MOST_NAME) {
            throw new IllegalArgumentException("a name is not 1 .. 65535");
        }
    }

    private void requireDisk(int disk) {
        if (disk < 0 || disk >= layout.disks) {
            throw new IllegalArgumentException("there is no such disk");
        }
    }

    private void requireOn() {
        if (!on) {
            throw new IllegalStateException("it is off");
        }
    }

    private void goOff() {
        on = false;
        rack.loseAt(0);
        // While it is off the places told are those that opening would find.
        volume.findPlaces();
    }

    private int offIfLost(int answer) {
        if (answer == POWER_LOST) {
            goOff();
        }
        return answer;
    }

    /** Whether an operation left too much changed: then it is undone, to be done again behind a commit. */
    private boolean overflows(int answer) {
        if (answer < 0 || image.countChanged() <= MOST_CHANGED) {
            return false;
        }
        image.undo();
        return true;
    }

    private boolean commitFirst() {
        if (offIfLost(journal.commit()) == POWER_LOST) {
            return false;
        }
        operations = 0;
        firstCommits++;
        return true;
    }

    private int finished(int answer) {
        if (answer < 0) {
            image.undo();
        } else {
            image.forgetUndo();
            operations++;
        }
        return answer;
    }

    /** What is not changed comes from the volume, as the document asks, not from memory. */
    private void see(int block) {
        if (image.isChanged(block)) {
            image.copyOut(block, seen, 0);
        } else {
            volume.load(block, seen, 0);
        }
    }

    /** Bytes that lie in rows of longs, eight in each, lowest first. */
    private static final class Bytes {
        /** What four steps of the check's shifting make of each four bits that fall out. */
        private static final int[] FALLEN = {
            0x00000000, 0x105ec76f, 0x20bd8ede, 0x30e349b1, 0x417b1dbc, 0x5125dad3, 0x61c69362, 0x7198540d,
            0x82f63b78, 0x92a8fc17, 0xa24bb5a6, 0xb21572c9, 0xc38d26c4, 0xd3d3e1ab, 0xe330a81a, 0xf36e6f75
        };

        static int one(long[] words, int from, int at) {
            return (int) (words[from + at / 8] >>> (8 * (at % 8))) & 255;
        }

        static void setOne(long[] words, int from, int at, int value) {
            int shift = 8 * (at % 8);
            long others = words[from + at / 8] & ~(255L << shift);
            words[from + at / 8] = others | ((long) (value & 255) << shift);
        }

        static int two(long[] words, int from, int at) {
            return one(words, from, at) | (one(words, from, at + 1) << 8);
        }

        static void clear(long[] words, int from, int count) {
            for (int i = 0; i < count; i++) {
                words[from + i] = 0;
            }
        }

        /** The check of the first bytes, without the turning of all bits at its beginning and end. */
        static int shifted(int start, long[] words, int count) {
            int v = start;
            for (int i = 0; i < count; i++) {
                v ^= one(words, 0, i);
                v = (v >>> 4) ^ FALLEN[v & 15];
                v = (v >>> 4) ^ FALLEN[v & 15];
            }
            return v;
        }

        static int check(long[] words, int count) {
            return ~shifted(-1, words, count);
        }
    }

    /**
     * Which cell is whose. The positions of stripes are numbered through all rows: such a number is
     * a SPOT here, and it is as well width * stripe + column.
     */
    private static final class Layout {
        final int disks;
        final int width;
        final int rows;
        final int groups;
        final int positions;
        final int stripes;
        final int spots;
        final int blocks;
        private final int[] steps;
        private int stepCount;

        Layout(int disks, int width, int rows) {
            this.disks = disks;
            this.width = width;
            this.rows = rows;
            groups = (disks - 1) / width;
            positions = width * groups;
            stripes = rows * groups;
            spots = rows * positions;
            blocks = stripes * (width - 1);
            steps = new int[disks];
            for (int t = 1; t < disks; t++) {
                if (haveNoDivisor(t, disks)) {
                    steps[stepCount] = t;
                    stepCount++;
                }
            }
        }

        private static boolean haveNoDivisor(int a, int b) {
            for (int d = 2; d <= a; d++) {
                if (a % d == 0 && b % d == 0) {
                    return false;
                }
            }
            return true;
        }

        int diskOf(int row, int position) {
            return (row + position * steps[row % stepCount]) % disks;
        }

        int rowOf(int spot) {
            return spot / positions;
        }

        int homeOf(int spot) {
            return diskOf(spot / positions, spot % positions);
        }

        int tagOf(int spot) {
            return spot % positions + 1;
        }

        int spotOf(int block) {
            return width * (block / (width - 1)) + block % (width - 1);
        }

        int firstSpotBeside(int spot) {
            return spot - spot % width;
        }

        int paritySpotBeside(int spot) {
            return spot - spot % width + width - 1;
        }

        int logTagOf(int spot) {
            return 1 + 8 * (spot / width) + spot % width;
        }

        int spotOfLogTag(int tag) {
            return width * ((tag - 1) / 8) + (tag - 1) % 8;
        }
    }

    /**
     * The disks, their cells, and the power that writes need. A cell's check is not kept: its bytes
     * are kept as they were written last, and apart from them its FLAW, the xor of all that spoilt
     * it. As no event may leave a valid cell with other bytes, a cell is valid when it has no flaw.
     */
    private static final class Rack {
        private static final int FLAW_WORDS = 9;
        private static final int CHECKED_BYTES = 66;

        private final int disks;
        private final int offsets;
        private final boolean[] live;
        private final boolean[] written;
        private final boolean[] flawed;
        private final int[] tags;
        private final long[] bytes;
        private final long[] flaws;
        private final long[] draft;
        private final long[] zeros;
        private int writes;
        private int untilLoss;

        Rack(int disks, int rows) {
            this.disks = disks;
            offsets = rows + 1;
            int cells = disks * offsets;
            live = new boolean[disks];
            for (int disk = 0; disk < disks; disk++) {
                live[disk] = true;
            }
            written = new boolean[cells];
            flawed = new boolean[cells];
            tags = new int[cells];
            bytes = new long[WORDS * cells];
            flaws = new long[FLAW_WORDS * cells];
            draft = new long[FLAW_WORDS];
            zeros = new long[WORDS];
        }

        boolean isLive(int disk) {
            return live[disk];
        }

        int countLive() {
            int count = 0;
            for (int disk = 0; disk < disks; disk++) {
                count += live[disk] ? 1 : 0;
            }
            return count;
        }

        int countWrites() {
            return writes;
        }

        void forgetWrites() {
            writes = 0;
        }

        void loseAt(int n) {
            untilLoss = n;
        }

        boolean isWritten(int disk, int offset) {
            return written[disk * offsets + offset];
        }

        boolean isValid(int disk, int offset) {
            int cell = disk * offsets + offset;
            return written[cell] && !flawed[cell];
        }

        int tagOf(int disk, int offset) {
            return tags[disk * offsets + offset];
        }

        void copyTo(long[] words, int at, int disk, int offset) {
            System.arraycopy(bytes, WORDS * (disk * offsets + offset), words, at, WORDS);
        }

        void addTo(long[] words, int at, int disk, int offset) {
            int from = WORDS * (disk * offsets + offset);
            for (int i = 0; i < WORDS; i++) {
                words[at + i] ^= bytes[from + i];
            }
        }

        /** Writes a cell; false when power is lost at that. */
        boolean put(int disk, int offset, int tag, long[] words, int at) {
            if (untilLoss == 1) {
                return false;
            }
            if (untilLoss > 1) {
                untilLoss--;
            }
            writes++;
            int cell = disk * offsets + offset;
            System.arraycopy(words, at, bytes, WORDS * cell, WORDS);
            tags[cell] = tag;
            written[cell] = true;
            mend(cell);
            return true;
        }

        boolean wipe(int disk, int offset) {
            return put(disk, offset, 0, zeros, 0);
        }

        private void mend(int cell) {
            if (flawed[cell]) {
                flawed[cell] = false;
                for (int i = 0; i < FLAW_WORDS; i++) {
                    flaws[FLAW_WORDS * cell + i] = 0;
                }
            }
        }

        void takeOut(int disk) {
            live[disk] = false;
            for (int cell = disk * offsets; cell < (disk + 1) * offsets; cell++) {
                written[cell] = false;
                mend(cell);
            }
        }

        void putIn(int disk) {
            live[disk] = true;
        }

        /** The flaw that a cell would have. */
        void draftFlaw(int disk, int offset, int at, int n, long mask) {
            System.arraycopy(flaws, FLAW_WORDS * (disk * offsets + offset), draft, 0, FLAW_WORDS);
            for (int i = 0; i < n; i++) {
                int spoilt = Bytes.one(draft, 0, at + i) ^ (int) (mask >>> (8 * i));
                Bytes.setOne(draft, 0, at + i, spoilt);
            }
        }

        boolean draftIsFlaw() {
            for (int i = 0; i < FLAW_WORDS; i++) {
                if (draft[i] != 0) {
                    return true;
                }
            }
            return false;
        }

        /**
         * Whether the cell would be valid with other bytes. The check goes by xors and shifts alone,
         * so a flaw shifted by itself is just what the flaw changes in the check that is right.
         */
        boolean draftIsForged() {
            int inCheck = (int) (draft[FLAW_WORDS - 1] >>> 16);
            return draftIsFlaw() && Bytes.shifted(0, draft, CHECKED_BYTES) == inCheck;
        }

        void keepFlaw(int disk, int offset) {
            int cell = disk * offsets + offset;
            System.arraycopy(draft, 0, flaws, FLAW_WORDS * cell, FLAW_WORDS);
            flawed[cell] = draftIsFlaw();
        }
    }

    /** The places of the spots, and the blocks that are read and written through them. */
    private static final class Volume {
        private final Layout layout;
        private final Rack rack;
        private final int[] places;
        private final long[] partial;
        private final long[] whole;

        Volume(Layout layout, Rack rack) {
            this.layout = layout;
            this.rack = rack;
            places = new int[layout.spots];
            partial = new long[WORDS];
            whole = new long[WORDS];
        }

        /** Writes all cells of a new rack. */
        void layOut() {
            for (int disk = 0; disk < layout.disks; disk++) {
                for (int offset = 0; offset <= layout.rows; offset++) {
                    rack.wipe(disk, offset);
                }
            }
            for (int spot = 0; spot < layout.spots; spot++) {
                places[spot] = layout.homeOf(spot);
                putAt(spot, whole, 0);
            }
        }

        int placeOf(int spot) {
            return places[spot];
        }

        void setPlace(int spot, int disk) {
            places[spot] = disk;
        }

        void findPlaces() {
            for (int spot = 0; spot < layout.spots; spot++) {
                places[spot] = foundPlace(spot);
            }
        }

        private int foundPlace(int spot) {
            int row = layout.rowOf(spot);
            int home = layout.homeOf(spot);
            if (rack.isWritten(home, row)) {
                return home;
            }
            for (int spare = layout.positions; spare < layout.disks; spare++) {
                int disk = layout.diskOf(row, spare);
                if (rack.isValid(disk, row) && rack.tagOf(disk, row) == layout.tagOf(spot)) {
                    return disk;
                }
            }
            return NONE;
        }

        void forgetPlacesOn(int disk) {
            for (int spot = 0; spot < layout.spots; spot++) {
                if (places[spot] == disk) {
                    places[spot] = NONE;
                }
            }
        }

        /** The spot whose place is the cell of a disk in a row. */
        int spotOn(int row, int disk) {
            int end = (row + 1) * layout.positions;
            for (int spot = row * layout.positions; spot < end; spot++) {
                if (places[spot] == disk) {
                    return spot;
                }
            }
            return NONE;
        }

        boolean isFreeSpare(int row, int spare) {
            int disk = layout.diskOf(row, spare);
            return rack.isLive(disk) && spotOn(row, disk) == NONE;
        }

        int firstFreeSpare(int row) {
            for (int spare = layout.positions; spare < layout.disks; spare++) {
                if (isFreeSpare(row, spare)) {
                    return layout.diskOf(row, spare);
                }
            }
            return NONE;
        }

        boolean isSound(int spot) {
            return places[spot] != NONE && rack.isValid(places[spot], layout.rowOf(spot));
        }

        boolean isSpoilt(int spot) {
            return places[spot] != NONE && !isSound(spot);
        }

        boolean hasFaultBeside(int spot) {
            int last = layout.paritySpotBeside(spot);
            for (int other = layout.firstSpotBeside(spot); other <= last; other++) {
                if (other != spot && !isSound(other)) {
                    return true;
                }
            }
            return false;
        }

        /** Whether no stripe would have two cells lost or spoilt without a disk. */
        boolean canMiss(int disk) {
            for (int spot = 0; spot < layout.spots; spot++) {
                if (places[spot] == disk && hasFaultBeside(spot)) {
                    return false;
                }
            }
            return true;
        }

        int countLost() {
            int count = 0;
            for (int spot = 0; spot < layout.spots; spot++) {
                count += places[spot] == NONE ? 1 : 0;
            }
            return count;
        }

        int countSpoilt() {
            int count = 0;
            for (int spot = 0; spot < layout.spots; spot++) {
                count += isSpoilt(spot) ? 1 : 0;
            }
            return count;
        }

        int countFreeSpares() {
            int count = 0;
            for (int row = 0; row < layout.rows; row++) {
                for (int spare = layout.positions; spare < layout.disks; spare++) {
                    count += isFreeSpare(row, spare) ? 1 : 0;
                }
            }
            return count;
        }

        private void addOthers(int spot, long[] words, int at) {
            int row = layout.rowOf(spot);
            int last = layout.paritySpotBeside(spot);
            for (int other = layout.firstSpotBeside(spot); other <= last; other++) {
                if (other != spot && places[other] != NONE) {
                    rack.addTo(words, at, places[other], row);
                }
            }
        }

        void reckon(int spot, long[] words, int at) {
            Bytes.clear(words, at, WORDS);
            addOthers(spot, words, at);
        }

        void loadSpot(int spot, long[] words, int at) {
            if (isSound(spot)) {
                rack.copyTo(words, at, places[spot], layout.rowOf(spot));
            } else {
                reckon(spot, words, at);
            }
        }

        void load(int block, long[] words, int at) {
            loadSpot(layout.spotOf(block), words, at);
        }

        /** Writes the cell that is a spot's place; false when power is lost at that. */
        boolean putAt(int spot, long[] words, int at) {
            return places[spot] == NONE
                || rack.put(places[spot], layout.rowOf(spot), layout.tagOf(spot), words, at);
        }

        /** The partial parity: the xor of the other data, each as it is read. */
        private void gatherOtherData(int spot, int parity) {
            int row = layout.rowOf(spot);
            Bytes.clear(partial, 0, WORDS);
            for (int other = layout.firstSpotBeside(spot); other < parity; other++) {
                if (other != spot && isSound(other)) {
                    rack.addTo(partial, 0, places[other], row);
                } else if (other != spot) {
                    addOthers(other, partial, 0);
                }
            }
        }

        /** Writes a block; false when power is lost at that. */
        boolean store(int block, long[] words, int at) {
            int spot = layout.spotOf(block);
            int parity = layout.paritySpotBeside(spot);
            int logDisk = places[parity];
            if (logDisk == NONE) {
                return putAt(spot, words, at);
            }
            gatherOtherData(spot, parity);
            for (int i = 0; i < WORDS; i++) {
                whole[i] = partial[i] ^ words[at + i];
            }
            if (places[spot] == NONE) {
                return putAt(parity, whole, 0);
            }
            return rack.put(logDisk, layout.rows, layout.logTagOf(spot), partial, 0)
                && putAt(spot, words, at)
                && putAt(parity, whole, 0)
                && rack.wipe(logDisk, layout.rows);
        }
    }

    /** What opening mends, and the steps of rebuilding, copying back and scrubbing. */
    private static final class Upkeep {
        private final Layout layout;
        private final Rack rack;
        private final Volume volume;
        private final long[] words;
        private int next;
        private int holes;

        Upkeep(Layout layout, Rack rack, Volume volume) {
            this.layout = layout;
            this.rack = rack;
            this.volume = volume;
            words = new long[WORDS];
        }

        int nextStripe() {
            return next;
        }

        int countHoles() {
            return holes;
        }

        void startAnew() {
            next = 0;
            volume.findPlaces();
        }

        boolean settleLogs() {
            for (int disk = 0; disk < layout.disks; disk++) {
                boolean isTold = rack.isValid(disk, layout.rows) && rack.tagOf(disk, layout.rows) > 0;
                if (isTold && !settleLog(disk)) {
                    return false;
                }
            }
            return true;
        }

        private boolean settleLog(int disk) {
            int spot = layout.spotOfLogTag(rack.tagOf(disk, layout.rows));
            int parity = layout.paritySpotBeside(spot);
            if (volume.placeOf(parity) == disk && volume.isSound(spot)) {
                volume.loadSpot(spot, words, 0);
                rack.addTo(words, 0, disk, layout.rows);
                if (!volume.putAt(parity, words, 0)) {
                    return false;
                }
            }
            return rack.wipe(disk, layout.rows);
        }

        boolean wipeFreeSpares() {
            for (int row = 0; row < layout.rows; row++) {
                for (int spare = layout.positions; spare < layout.disks; spare++) {
                    if (isStale(row, spare) && !rack.wipe(layout.diskOf(row, spare), row)) {
                        return false;
                    }
                }
            }
            return true;
        }

        private boolean isStale(int row, int spare) {
            int disk = layout.diskOf(row, spare);
            return rack.isValid(disk, row) && rack.tagOf(disk, row) > 0 && volume.isFreeSpare(row, spare);
        }

        int rebuildStep() {
            for (int spot = 0; spot < layout.spots; spot++) {
                if (volume.placeOf(spot) == NONE && !rack.isLive(layout.homeOf(spot))) {
                    int disk = volume.firstFreeSpare(layout.rowOf(spot));
                    if (disk != NONE) {
                        volume.reckon(spot, words, 0);
                        return settleAt(spot, disk) ? 1 : POWER_LOST;
                    }
                }
            }
            return 0;
        }

        int copyBackStep() {
            for (int spot = 0; spot < layout.spots; spot++) {
                int home = layout.homeOf(spot);
                if (rack.isLive(home) && !rack.isWritten(home, layout.rowOf(spot))) {
                    return copyHome(spot, home) ? 1 : POWER_LOST;
                }
            }
            return 0;
        }

        private boolean copyHome(int spot, int home) {
            int spareDisk = volume.placeOf(spot);
            volume.loadSpot(spot, words, 0);
            return settleAt(spot, home)
                && (spareDisk == NONE || rack.wipe(spareDisk, layout.rowOf(spot)));
        }

        /** Writes the words to a cell that is the spot's place from then on. */
        private boolean settleAt(int spot, int disk) {
            if (!rack.put(disk, layout.rowOf(spot), layout.tagOf(spot), words, 0)) {
                return false;
            }
            volume.setPlace(spot, disk);
            return true;
        }

        int scrubStep() {
            int first = layout.width * next;
            // It goes on ahead of the step, so that a step that power ends counts too.
            next = (next + 1) % layout.stripes;
            boolean isWhole = true;
            for (int spot = first; spot < first + layout.width; spot++) {
                if (volume.isSpoilt(spot)) {
                    volume.reckon(spot, words, 0);
                    return volume.putAt(spot, words, 0) ? 1 : POWER_LOST;
                }
                isWhole = isWhole && volume.isSound(spot);
            }
            if (isWhole && !addsUp(first)) {
                holes++;
            }
            return 0;
        }

        private boolean addsUp(int first) {
            volume.reckon(first, words, 0);
            rack.addTo(words, 0, volume.placeOf(first), layout.rowOf(first));
            for (int i = 0; i < WORDS; i++) {
                if (words[i] != 0) {
                    return false;
                }
            }
            return true;
        }
    }

    /**
     * The bytes of all blocks as operations left them (HELD) and as the volume has them (STORED), the
     * map among them, and what undoes the operation that runs. A block is MARKED if an operation
     * touched it since the latest commit, so that only a few have to be compared.
     */
    private static final class Image {
        private static final int MOST_TOUCHED = 32;
        private static final int MAP_BITS = 8 * BYTES;

        final long[] held;
        private final int blocks;
        private final long[] stored;
        private final long[] loaded;
        private final boolean[] marked;
        private final boolean[] saved;
        private final int[] savedBlocks;
        private final long[] savedWords;
        private int savedCount;

        Image(int blocks) {
            this.blocks = blocks;
            held = new long[WORDS * blocks];
            stored = new long[WORDS * blocks];
            loaded = new long[WORDS];
            marked = new boolean[blocks];
            saved = new boolean[blocks];
            savedBlocks = new int[MOST_TOUCHED];
            savedWords = new long[WORDS * MOST_TOUCHED];
        }

        /** A new volume: the root, and a map of the blocks that no file may have. */
        void layOut() {
            setByte(INODE_BLOCK, 0, DIRECTORY);
            for (int block = 0; block < FILE_BLOCK; block++) {
                setTaken(block, true);
            }
            forgetUndo();
        }

        void fillFrom(Volume volume) {
            for (int block = INODE_BLOCK; block < blocks; block++) {
                volume.load(block, stored, WORDS * block);
                marked[block] = false;
            }
            System.arraycopy(stored, 0, held, 0, WORDS * blocks);
        }

        int byteAt(int block, int at) {
            return (int) (held[WORDS * block + at / 8] >>> (8 * (at % 8))) & 255;
        }

        int pairAt(int block, int at) {
            return byteAt(block, at) | (byteAt(block, at + 1) << 8);
        }

        void setByte(int block, int at, int value) {
            touch(block);
            Bytes.setOne(held, WORDS * block, at, value);
        }

        void setPair(int block, int at, int value) {
            touch(block);
            Bytes.setOne(held, WORDS * block, at, value);
            Bytes.setOne(held, WORDS * block, at + 1, value >> 8);
        }

        void copyOut(int block, long[] words, int at) {
            System.arraycopy(held, WORDS * block, words, at, WORDS);
        }

        boolean isTaken(int block) {
            int bits = byteAt(MAP_BLOCK + block / MAP_BITS, block / 8 % BYTES);
            return ((bits >> (block % 8)) & 1) == 1;
        }

        private void setTaken(int block, boolean taken) {
            int mapBlock = MAP_BLOCK + block / MAP_BITS;
            int at = block / 8 % BYTES;
            int bit = 1 << (block % 8);
            int others = byteAt(mapBlock, at) & ~bit;
            touch(mapBlock);
            Bytes.setOne(held, WORDS * mapBlock, at, taken ? others | bit : others);
        }

        /** Takes a free block; what an earlier file left in it goes. */
        void take(int block) {
            setTaken(block, true);
            touch(block);
            Bytes.clear(held, WORDS * block, WORDS);
        }

        void giveBack(int block) {
            setTaken(block, false);
        }

        boolean isFree(int block) {
            return block < blocks && !isTaken(block);
        }

        int leastFree() {
            for (int block = FILE_BLOCK; block < blocks; block++) {
                if (!isTaken(block)) {
                    return block;
                }
            }
            return NONE;
        }

        int countFree() {
            int count = 0;
            for (int block = FILE_BLOCK; block < blocks; block++) {
                count += isTaken(block) ? 0 : 1;
            }
            return count;
        }

        boolean isChanged(int block) {
            return marked[block] && isTaken(block)
                && !areSame(held, WORDS * block, stored, WORDS * block);
        }

        private static boolean areSame(long[] a, int fromA, long[] b, int fromB) {
            for (int i = 0; i < WORDS; i++) {
                if (a[fromA + i] != b[fromB + i]) {
                    return false;
                }
            }
            return true;
        }

        int countChanged() {
            int count = 0;
            for (int block = INODE_BLOCK; block < blocks; block++) {
                count += isChanged(block) ? 1 : 0;
            }
            return count;
        }

        /** The numbers of changed blocks, rising, and their bytes; how many. */
        int listChanged(int[] numbers, long[] words) {
            int count = 0;
            for (int block = INODE_BLOCK; block < blocks && count < numbers.length; block++) {
                if (isChanged(block)) {
                    numbers[count] = block;
                    copyOut(block, words, WORDS * count);
                    count++;
                }
            }
            return count;
        }

        /** Blocks that the volume lost on its way: taken, not changed, and not there as committed. */
        int countStrayed(Volume volume) {
            int count = 0;
            for (int block = INODE_BLOCK; block < blocks; block++) {
                if (isTaken(block) && !isChanged(block)) {
                    volume.load(block, loaded, 0);
                    count += areSame(loaded, 0, stored, WORDS * block) ? 0 : 1;
                }
            }
            return count;
        }

        /** What is changed was committed. A block that is not taken is not: the volume has other bytes. */
        void settle() {
            for (int block = INODE_BLOCK; block < blocks; block++) {
                if (isChanged(block)) {
                    copyOut(block, stored, WORDS * block);
                }
                marked[block] = false;
            }
        }

        /** Keeps a block's bytes for undoing, ahead of the operation's first change of it. */
        private void touch(int block) {
            marked[block] = true;
            if (saved[block] || savedCount >= MOST_TOUCHED) {
                return;
            }
            saved[block] = true;
            savedBlocks[savedCount] = block;
            System.arraycopy(held, WORDS * block, savedWords, WORDS * savedCount, WORDS);
            savedCount++;
        }

        void undo() {
            for (int i = 0; i < savedCount; i++) {
                System.arraycopy(savedWords, WORDS * i, held, WORDS * savedBlocks[i], WORDS);
            }
            forgetUndo();
        }

        void forgetUndo() {
            for (int i = 0; i < savedCount; i++) {
                saved[savedBlocks[i]] = false;
            }
            savedCount = 0;
        }
    }

    /** The inodes, and the blocks that are taken for them. */
    private static final class Inodes {
        private static final int INODE_BYTES = 32;
        private static final int EXTENTS_AT = 1;
        private static final int SIZE_AT = 2;
        private static final int FIRST_AT = 4;
        private static final int LENGTH_AT = 6;
        private static final int EXTENT_BYTES = 3;
        private static final int MOST_EXTENTS = 8;
        private static final int MOST_LENGTH = 255;

        private final Image image;

        Inodes(Image image) {
            this.image = image;
        }

        private static int home(int inode) {
            return INODE_BLOCK + inode / 2;
        }

        private static int at(int inode, int field) {
            return INODE_BYTES * (inode % 2) + field;
        }

        int kindOf(int inode) {
            return image.byteAt(home(inode), at(inode, 0));
        }

        int extentsOf(int inode) {
            return image.byteAt(home(inode), at(inode, EXTENTS_AT));
        }

        int sizeOf(int inode) {
            return image.pairAt(home(inode), at(inode, SIZE_AT));
        }

        int firstOf(int inode, int extent) {
            return image.pairAt(home(inode), at(inode, FIRST_AT + EXTENT_BYTES * extent));
        }

        int lengthOf(int inode, int extent) {
            return image.byteAt(home(inode), at(inode, LENGTH_AT + EXTENT_BYTES * extent));
        }

        private void setExtents(int inode, int count) {
            image.setByte(home(inode), at(inode, EXTENTS_AT), count);
        }

        private void setExtent(int inode, int extent, int first, int length) {
            image.setPair(home(inode), at(inode, FIRST_AT + EXTENT_BYTES * extent), first);
            image.setByte(home(inode), at(inode, LENGTH_AT + EXTENT_BYTES * extent), length);
        }

        void setSize(int inode, int size) {
            image.setPair(home(inode), at(inode, SIZE_AT), size);
        }

        void setKind(int inode, int kind) {
            image.setByte(home(inode), at(inode, 0), kind);
        }

        int leastFree() {
            for (int inode = 0; inode < INODES; inode++) {
                if (kindOf(inode) == FREE) {
                    return inode;
                }
            }
            return NONE;
        }

        int countFree() {
            int count = 0;
            for (int inode = 0; inode < INODES; inode++) {
                count += kindOf(inode) == FREE ? 1 : 0;
            }
            return count;
        }

        /** The block that has the bytes of a file from 64 * index on; the root's inode block for none. */
        int blockOf(int inode, int index) {
            int left = index;
            int extents = extentsOf(inode);
            for (int extent = 0; extent < extents; extent++) {
                int length = lengthOf(inode, extent);
                if (left < length) {
                    return firstOf(inode, extent) + left;
                }
                left -= length;
            }
            return INODE_BLOCK;
        }

        private static int blocksFor(int size) {
            return (size + BYTES - 1) / BYTES;
        }

        /** Sets the size, with blocks taken or given back; false when one cannot be taken. */
        boolean resize(int inode, int size) {
            int had = blocksFor(sizeOf(inode));
            int needed = blocksFor(size);
            for (int i = had; i < needed; i++) {
                if (!takeBlock(inode)) {
                    return false;
                }
            }
            for (int i = needed; i < had; i++) {
                giveLastBlock(inode);
            }
            if (size < sizeOf(inode)) {
                clearBehind(inode, size);
            }
            setSize(inode, size);
            return true;
        }

        /** Takes one block more; false when none can be taken. */
        boolean takeBlock(int inode) {
            int extents = extentsOf(inode);
            if (extents > 0) {
                int first = firstOf(inode, extents - 1);
                int length = lengthOf(inode, extents - 1);
                if (length < MOST_LENGTH && image.isFree(first + length)) {
                    setExtent(inode, extents - 1, first, length + 1);
                    image.take(first + length);
                    return true;
                }
            }
            int least = image.leastFree();
            if (least == NONE || extents >= MOST_EXTENTS) {
                return false;
            }
            setExtent(inode, extents, least, 1);
            setExtents(inode, extents + 1);
            image.take(least);
            return true;
        }

        private void giveLastBlock(int inode) {
            int last = extentsOf(inode) - 1;
            if (last < 0) {
                return;
            }
            int first = firstOf(inode, last);
            int length = lengthOf(inode, last) - 1;
            image.giveBack(first + length);
            if (length > 0) {
                setExtent(inode, last, first, length);
            } else {
                setExtent(inode, last, 0, 0);
                setExtents(inode, last);
            }
        }

        private void clearBehind(int inode, int size) {
            if (size % BYTES == 0) {
                return;
            }
            int block = blockOf(inode, size / BYTES);
            for (int at = size % BYTES; at < BYTES; at++) {
                image.setByte(block, at, 0);
            }
        }

        void release(int inode) {
            int extents = extentsOf(inode);
            for (int extent = 0; extent < extents; extent++) {
                int first = firstOf(inode, extent);
                int length = lengthOf(inode, extent);
                for (int i = 0; i < length; i++) {
                    image.giveBack(first + i);
                }
            }
            for (int field = 0; field < INODE_BYTES; field++) {
                image.setByte(home(inode), at(inode, field), 0);
            }
        }
    }

    /** The directories and what operations do in them. */
    private static final class Tree {
        private static final int ENTRY_BYTES = 4;
        private static final int ENTRIES = BYTES / ENTRY_BYTES;
        private static final int INODE_AT = 2;
        private static final int NO_NAME = 0;

        private final Image image;
        private final Inodes inodes;
        private final int[] parents;

        Tree(Image image, Inodes inodes) {
            this.image = image;
            this.inodes = inodes;
            parents = new int[INODES];
        }

        private int faultOf(int inode, int kind) {
            int found = inodes.kindOf(inode);
            if (found == FREE) {
                return ABSENT;
            }
            return found == kind ? 0 : OTHER_KIND;
        }

        /** The number of the first entry with a name (an empty one for NO_NAME). */
        private int entryOf(int directory, int name) {
            int blocks = inodes.sizeOf(directory) / BYTES;
            for (int index = 0; index < blocks; index++) {
                int block = inodes.blockOf(directory, index);
                for (int i = 0; i < ENTRIES; i++) {
                    if (image.pairAt(block, ENTRY_BYTES * i) == name) {
                        return ENTRIES * index + i;
                    }
                }
            }
            return NONE;
        }

        private int inodeAt(int directory, int entry) {
            int block = inodes.blockOf(directory, entry / ENTRIES);
            return image.byteAt(block, ENTRY_BYTES * (entry % ENTRIES) + INODE_AT) % INODES;
        }

        private void setEntry(int directory, int entry, int name, int inode) {
            int block = inodes.blockOf(directory, entry / ENTRIES);
            image.setPair(block, ENTRY_BYTES * (entry % ENTRIES), name);
            image.setByte(block, ENTRY_BYTES * (entry % ENTRIES) + INODE_AT, inode);
        }

        private boolean addEntry(int directory, int name, int inode) {
            int entry = entryOf(directory, NO_NAME);
            if (entry == NONE) {
                int size = inodes.sizeOf(directory);
                if (!inodes.takeBlock(directory)) {
                    return false;
                }
                inodes.setSize(directory, size + BYTES);
                entry = size / ENTRY_BYTES;
            }
            setEntry(directory, entry, name, inode);
            return true;
        }

        private boolean hasEntries(int inode) {
            int blocks = inodes.kindOf(inode) == DIRECTORY ? inodes.sizeOf(inode) / BYTES : 0;
            for (int index = 0; index < blocks; index++) {
                int block = inodes.blockOf(inode, index);
                for (int at = 0; at < BYTES; at += ENTRY_BYTES) {
                    if (image.pairAt(block, at) != NO_NAME) {
                        return true;
                    }
                }
            }
            return false;
        }

        int inodeOf(int directory, int name) {
            int fault = faultOf(directory, DIRECTORY);
            if (fault < 0) {
                return fault;
            }
            int entry = entryOf(directory, name);
            return entry == NONE ? ABSENT : inodeAt(directory, entry);
        }

        int addNew(int directory, int name, int kind) {
            int fault = faultOf(directory, DIRECTORY);
            if (fault < 0) {
                return fault;
            }
            if (entryOf(directory, name) != NONE) {
                return NAME_IN_USE;
            }
            int inode = inodes.leastFree();
            if (inode == NONE) {
                return NO_INODE;
            }
            if (!addEntry(directory, name, inode)) {
                return NO_BLOCK;
            }
            inodes.setKind(inode, kind);
            return inode;
        }

        int writeBytes(int inode, int offset, byte[] bytes, int length) {
            int fault = faultOf(inode, FILE);
            if (fault < 0) {
                return fault;
            }
            int size = inodes.sizeOf(inode);
            if (offset < 0 || offset > size) {
                return OUT_OF_BOUNDS;
            }
            int end = offset + length;
            if (end > size && !inodes.resize(inode, end)) {
                return NO_BLOCK;
            }
            int block = INODE_BLOCK;
            for (int at = offset; at < end; at++) {
                if (at == offset || at % BYTES == 0) {
                    block = inodes.blockOf(inode, at / BYTES);
                }
                image.setByte(block, at % BYTES, bytes[at - offset]);
            }
            return Math.max(size, end);
        }

        int changeSize(int inode, int size) {
            int fault = faultOf(inode, FILE);
            if (fault < 0) {
                return fault;
            }
            if (size < 0 || size > inodes.sizeOf(inode) + MOST_GROWTH) {
                return OUT_OF_BOUNDS;
            }
            return inodes.resize(inode, size) ? size : NO_BLOCK;
        }

        int moveEntry(int directory, int name, int toDirectory, int toName) {
            int moved = inodeOf(directory, name);
            if (moved < 0) {
                return moved;
            }
            int there = inodeOf(toDirectory, toName);
            int fault = faultOf(toDirectory, DIRECTORY);
            if (fault < 0 || there == moved) {
                return fault;
            }
            if (there >= 0) {
                fault = replacingFault(moved, there);
            }
            if (fault == 0 && comesIntoItself(moved, toDirectory)) {
                fault = INTO_ITSELF;
            }
            if (fault < 0) {
                return fault;
            }
            int entry = entryOf(directory, name);
            if (there >= 0) {
                inodes.release(there);
                setEntry(toDirectory, entryOf(toDirectory, toName), toName, moved);
                setEntry(directory, entry, NO_NAME, 0);
                return 0;
            }
            setEntry(directory, entry, NO_NAME, 0);
            return addEntry(toDirectory, toName, moved) ? 0 : NO_BLOCK;
        }

        private int replacingFault(int moved, int there) {
            if (inodes.kindOf(moved) != inodes.kindOf(there)) {
                return OTHER_KIND;
            }
            return hasEntries(there) ? NOT_EMPTY : 0;
        }

        private boolean comesIntoItself(int moved, int toDirectory) {
            if (inodes.kindOf(moved) != DIRECTORY) {
                return false;
            }
            noteParents();
            int above = toDirectory;
            for (int depth = 0; depth < INODES && above != NONE; depth++) {
                if (above == moved) {
                    return true;
                }
                above = parents[above];
            }
            return false;
        }

        /** No inode knows the directory that it is in, so all directories are gone through once. */
        private void noteParents() {
            for (int inode = 0; inode < INODES; inode++) {
                parents[inode] = NONE;
            }
            for (int inode = 0; inode < INODES; inode++) {
                int blocks = inodes.kindOf(inode) == DIRECTORY ? inodes.sizeOf(inode) / BYTES : 0;
                for (int index = 0; index < blocks; index++) {
                    noteParent(inode, inodes.blockOf(inode, index));
                }
            }
        }

        private void noteParent(int directory, int block) {
            for (int at = 0; at < BYTES; at += ENTRY_BYTES) {
                if (image.pairAt(block, at) != NO_NAME) {
                    parents[image.byteAt(block, at + INODE_AT) % INODES] = directory;
                }
            }
        }

        int removeEntry(int directory, int name) {
            int inode = inodeOf(directory, name);
            if (inode < 0) {
                return inode;
            }
            if (hasEntries(inode)) {
                return NOT_EMPTY;
            }
            setEntry(directory, entryOf(directory, name), NO_NAME, 0);
            inodes.release(inode);
            return 0;
        }
    }

    /** The head and the payload in the first blocks of the volume. */
    private static final class Journal {
        private static final int COUNT_AT = 4;
        private static final int TARGETS_AT = 5;
        private static final int CHECK_AT = 59;

        private final Layout layout;
        private final Volume volume;
        private final Image image;
        private final int[] targets;
        private final long[] payload;
        private final long[] head;
        private int sequence;

        Journal(Layout layout, Volume volume, Image image) {
            this.layout = layout;
            this.volume = volume;
            this.image = image;
            targets = new int[MOST_CHANGED];
            payload = new long[WORDS * MOST_CHANGED];
            head = new long[WORDS];
        }

        int sequenceNow() {
            return sequence;
        }

        /** How many blocks were changed, or POWER_LOST. */
        int commit() {
            int count = image.listChanged(targets, payload);
            if (count > 0 && !(announce(count) && carryOut(count))) {
                return POWER_LOST;
            }
            image.settle();
            return count;
        }

        private boolean announce(int count) {
            for (int i = 0; i < count; i++) {
                if (!volume.store(1 + i, payload, WORDS * i)) {
                    return false;
                }
            }
            fillHead(count);
            return volume.store(0, head, 0);
        }

        private boolean carryOut(int count) {
            for (int i = 0; i < count; i++) {
                if (!volume.store(targets[i], payload, WORDS * i)) {
                    return false;
                }
            }
            sequence++;
            fillHead(0);
            return volume.store(0, head, 0);
        }

        private void fillHead(int count) {
            Bytes.clear(head, 0, WORDS);
            setFour(0, sequence);
            Bytes.setOne(head, 0, COUNT_AT, count);
            for (int i = 0; i < count; i++) {
                Bytes.setOne(head, 0, TARGETS_AT + 2 * i, targets[i]);
                Bytes.setOne(head, 0, TARGETS_AT + 2 * i + 1, targets[i] >> 8);
            }
            if (count > 0) {
                setFour(CHECK_AT, Bytes.check(payload, BYTES * count));
            }
        }

        private void setFour(int at, int value) {
            for (int i = 0; i < 4; i++) {
                Bytes.setOne(head, 0, at + i, value >> (8 * i));
            }
        }

        /** Does what a commit announced and did not end; false when power is lost at that. */
        boolean recover() {
            volume.load(0, head, 0);
            sequence = (int) head[0];
            int count = Math.min(Bytes.one(head, 0, COUNT_AT), MOST_CHANGED);
            for (int i = 0; i < count; i++) {
                targets[i] = Math.min(Bytes.two(head, 0, TARGETS_AT + 2 * i), layout.blocks - 1);
                volume.load(1 + i, payload, WORDS * i);
            }
            return count == 0 || carryOut(count);
        }
    }
}
