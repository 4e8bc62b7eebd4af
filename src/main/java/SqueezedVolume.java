import java.util.NoSuchElementException;

/**
 * A volume of files that lie each in one piece, and that can be moved down, block by block, so that power may fail at
 * any write without harm.
 *
 * <p>Every write asks Power first. A change of the directory is made up in a draft beside the directory that holds, and
 * takes its place with its last write: so a change that power breaks off leaves no trace.
 */
public final class SqueezedVolume {

    /** Answered when power fails in a call. */
    public static final int CUT = -1;

    private static final int BLOCKS = 48;
    private static final int MOST_ENTRIES = 16;
    private static final int HANDLES = 4;
    private static final int LAST_NAME = 999;
    private static final int MOST_IN_GROUP = 8;
    private static final int ENTRIES_A_WRITE = 4;

    private static final int EMPTY = 0;
    private static final int TENTATIVE = 1;
    private static final int PERMANENT = 2;

    private static final int KIND = 0;
    private static final int BEGIN = 1;
    private static final int LENGTH = 2;
    private static final int NAME = 3;

    private static final int NONE = -1;
    private static final int NO_NAME = 0;
    private static final int NEVER = -1;

    private final Power power;
    private final Row content;
    private final Directory directory;
    private final Directory draft;

    /** Stays true when power fails in a squeeze: mount() then ends it. */
    private boolean squeezing;

    /** The first block, counted in the file that is being moved, of the group under way; NONE between moves. */
    private int ledger;

    public SqueezedVolume() {
        power = new Power();
        content = new Row(BLOCKS);
        directory = new Directory();
        draft = new Directory();
        squeezing = false;
        ledger = NONE;
        directory.addEmpty(BLOCKS);
    }

    /** Opens a tentative file: its handle, or CUT. */
    public int enter(int name, int blocks)
            throws IllegalStateException, IllegalArgumentException, UnsupportedOperationException {
        requirePower();
        requireName(name);
        if (blocks < 0 || blocks > BLOCKS) {
            throw new IllegalArgumentException("blocks is not 0 .. 48");
        }
        int handle = directory.leastFreeHandle();
        if (handle == NONE) {
            throw new IllegalStateException("there are 4 tentative files");
        }
        int length = blocks == 0 ? directory.roomToSpare() : blocks;
        int k = directory.findRoom(length);
        if (length == 0 || k == NONE) {
            throw new UnsupportedOperationException("no empty entry is long enough");
        }
        draftInPlaceOf(k, TENTATIVE, length, name, handle);
        requireFewEntries();
        return change() ? handle : CUT;
    }

    /** Writes an int into a block of a tentative file: 0, or CUT. */
    public int put(int handle, int block, int v)
            throws IllegalStateException, NoSuchElementException, IllegalArgumentException {
        requirePower();
        int k = requireTentative(handle);
        requireBlock(k, block);
        return writeBlock(directory.beginAt(k) + block, v) ? 0 : CUT;
    }

    /** Makes a tentative file permanent: how many blocks more are empty, or CUT. */
    public int close(int handle, int used)
            throws IllegalStateException, NoSuchElementException, IllegalArgumentException,
            UnsupportedOperationException {
        requirePower();
        int k = requireTentative(handle);
        if (used < 1 || used > directory.lengthAt(k)) {
            throw new IllegalArgumentException("used is not 1 .. the file's length");
        }
        draftClosed(k, used);
        requireFewEntries();
        int gained = draft.emptyBlocks() - directory.emptyBlocks();
        return change() ? gained : CUT;
    }

    /** A tentative file becomes empty: its length, or CUT. */
    public int purge(int handle) throws IllegalStateException, NoSuchElementException {
        requirePower();
        return makeEmpty(requireTentative(handle));
    }

    /** A permanent file becomes empty: its length, or CUT. */
    public int delete(int name) throws IllegalStateException, NoSuchElementException {
        requirePower();
        return makeEmpty(requirePermanent(name));
    }

    /** A permanent file gets another name: 0, or CUT. */
    public int rename(int name, int to)
            throws IllegalStateException, IllegalArgumentException, NoSuchElementException,
            UnsupportedOperationException {
        requirePower();
        requireName(to);
        int k = requirePermanent(name);
        if (directory.findPermanent(to) != NONE) {
            throw new UnsupportedOperationException("there is a permanent file with that name");
        }
        draftInPlaceOf(k, PERMANENT, directory.lengthAt(k), to, NONE);
        return change() ? 0 : CUT;
    }

    /** The int in a block of a permanent file. */
    public int read(int name, int block)
            throws IllegalStateException, NoSuchElementException, IllegalArgumentException {
        requirePower();
        int k = requirePermanent(name);
        requireBlock(k, block);
        return content.at(directory.beginAt(k) + block);
    }

    /** Moves all files down: how many blocks were copied, or CUT. */
    public int squeeze() throws IllegalStateException {
        requirePower();
        if (directory.countOf(TENTATIVE) > 0) {
            throw new IllegalStateException("there are tentative files");
        }
        return moveAll();
    }

    /** Power comes again; what it broke off is ended: how many permanent files there are. */
    public int mount() throws IllegalStateException {
        if (power.isUp()) {
            throw new IllegalStateException("power is on");
        }
        power.comeAgain();
        if (squeezing) {
            moveAll();
        }
        if (directory.countOf(TENTATIVE) > 0) {
            draftWithoutTentative();
            change();
        }
        return directory.countOf(PERMANENT);
    }

    /** Power fails after n writes from now on; never with n = -1. */
    public void cutAfter(int n) throws IllegalStateException, IllegalArgumentException {
        requirePower();
        if (n < NEVER) {
            throw new IllegalArgumentException("n is less than -1");
        }
        power.failAfter(n);
    }

    /** Of the k-th entry: 0 its kind, 1 where it begins, 2 its length, 3 its name. */
    public int entry(int k, int what)
            throws IllegalStateException, IllegalArgumentException, IndexOutOfBoundsException {
        requirePower();
        if (what < KIND || what > NAME) {
            throw new IllegalArgumentException("what is not 0 .. 3");
        }
        if (k < 0 || k >= directory.count()) {
            throw new IndexOutOfBoundsException("there is no such entry");
        }
        switch (what) {
            case KIND:
                return directory.kindAt(k);
            case BEGIN:
                return directory.beginAt(k);
            case LENGTH:
                return directory.lengthAt(k);
            default:
                return directory.nameAt(k);
        }
    }

    /** How many entries there are. */
    public int entries() throws IllegalStateException {
        requirePower();
        return directory.count();
    }

    /** The length of the longest empty entry, or of all together. */
    public int free(boolean longest) throws IllegalStateException {
        requirePower();
        return longest ? directory.longestEmpty() : directory.emptyBlocks();
    }

    /** The least handle of a tentative file with a name; -1 for none. */
    public int handle(int name) throws IllegalStateException {
        requirePower();
        return directory.leastHandleOf(name);
    }

    /** How many writes were made so far. */
    public int writes() {
        return power.made();
    }

    /** Whether power is on. */
    public boolean isOn() {
        return power.isUp();
    }

    private void requirePower() {
        if (!power.isUp()) {
            throw new IllegalStateException("power is off");
        }
    }

    private void requireName(int name) {
        if (name < 1 || name > LAST_NAME) {
            throw new IllegalArgumentException("a name is not 1 .. 999");
        }
    }

    private int requireTentative(int handle) {
        int k = directory.findTentative(handle);
        if (k == NONE) {
            throw new NoSuchElementException("there is no such handle");
        }
        return k;
    }

    private int requirePermanent(int name) {
        int k = directory.findPermanent(name);
        if (k == NONE) {
            throw new NoSuchElementException("there is no permanent file with the name");
        }
        return k;
    }

    private void requireBlock(int k, int block) {
        if (block < 0 || block >= directory.lengthAt(k)) {
            throw new IllegalArgumentException("the file has no such block");
        }
    }

    private void requireFewEntries() {
        if (draft.count() > MOST_ENTRIES) {
            throw new UnsupportedOperationException("there would be more than 16 entries");
        }
    }

    /** One entry gives way to another that begins there; what it was longer is empty. */
    private void draftInPlaceOf(int k, int kind, int length, int name, int handle) {
        draft.clear();
        draft.addRange(directory, 0, k);
        draft.add(kind, length, name, handle);
        draft.addEmpty(directory.lengthAt(k) - length);
        draft.addRange(directory, k + 1, directory.count());
    }

    private void draftClosed(int k, int used) {
        int name = directory.nameAt(k);
        int older = directory.findPermanent(name);
        draft.clear();
        for (int i = 0; i < directory.count(); i++) {
            if (i == k) {
                draft.add(PERMANENT, used, name, NONE);
                draft.addEmpty(directory.lengthAt(i) - used);
            } else if (i == older) {
                draft.addEmpty(directory.lengthAt(i));
            } else {
                draft.addRange(directory, i, i + 1);
            }
        }
    }

    private void draftWithoutTentative() {
        draft.clear();
        for (int i = 0; i < directory.count(); i++) {
            if (directory.kindAt(i) == TENTATIVE) {
                draft.addEmpty(directory.lengthAt(i));
            } else {
                draft.addRange(directory, i, i + 1);
            }
        }
    }

    private void draftMovedBefore(int gap) {
        draft.clear();
        draft.addRange(directory, 0, gap);
        draft.addRange(directory, gap + 1, gap + 2);
        draft.addEmpty(directory.lengthAt(gap));
        draft.addRange(directory, gap + 2, directory.count());
    }

    private int makeEmpty(int k) {
        int length = directory.lengthAt(k);
        draftInPlaceOf(k, EMPTY, length, NO_NAME, NONE);
        return change() ? length : CUT;
    }

    /** The draft becomes the directory, unless power fails before the last write of it. */
    private boolean change() {
        int started = (draft.count() + ENTRIES_A_WRITE - 1) / ENTRIES_A_WRITE;
        for (int i = 0; i < started + 1; i++) {
            if (!power.countWrite()) {
                return false;
            }
        }
        directory.takeOver(draft);
        return true;
    }

    private boolean writeBlock(int block, int v) {
        if (!power.countWrite()) {
            return false;
        }
        content.set(block, v);
        return true;
    }

    private boolean writeLedger(int block) {
        if (!power.countWrite()) {
            return false;
        }
        ledger = block;
        squeezing = true;
        return true;
    }

    private int moveAll() {
        int copied = 0;
        // A move takes a file past the lowest empty entry for good, so there are fewer moves than entries.
        for (int moves = 0; moves < MOST_ENTRIES; moves++) {
            int gap = directory.findGap();
            if (gap == NONE) {
                break;
            }
            copied += directory.lengthAt(gap + 1);
            if (!moveDown(gap)) {
                return CUT;
            }
        }
        squeezing = false;
        return copied;
    }

    private boolean moveDown(int gap) {
        if (!copyDown(gap)) {
            return false;
        }
        draftMovedBefore(gap);
        if (!change()) {
            return false;
        }
        ledger = NONE;
        return true;
    }

    private boolean copyDown(int gap) {
        int to = directory.beginAt(gap);
        int from = directory.beginAt(gap + 1);
        // A group longer than the way down would overwrite blocks of its own, and could not be copied again.
        int group = Math.min(MOST_IN_GROUP, directory.lengthAt(gap));
        // The group that the ledger tells after a power failure is copied again without a new ledger write.
        int covered = ledger == NONE ? 0 : group;
        for (int i = Math.max(0, ledger); i < directory.lengthAt(gap + 1); i++) {
            if (covered == 0) {
                if (!writeLedger(i)) {
                    return false;
                }
                covered = group;
            }
            if (!writeBlock(to + i, content.at(from + i))) {
                return false;
            }
            covered--;
        }
        return true;
    }

    /** Counts the writes, and knows when there is no power for one more. */
    private static final class Power {
        private boolean up;
        private int left;
        private int count;

        Power() {
            up = true;
            left = NEVER;
            count = 0;
        }

        boolean isUp() {
            return up;
        }

        int made() {
            return count;
        }

        void failAfter(int n) {
            left = n;
        }

        void comeAgain() {
            up = true;
            left = NEVER;
        }

        boolean countWrite() {
            if (left == 0) {
                up = false;
            }
            if (!up) {
                return false;
            }
            if (left > 0) {
                left--;
            }
            count++;
            return true;
        }
    }

    /** Ints in a row; outside it there are zeros that can't be set, so that no index is ever out of bounds. */
    private static final class Row {
        private final int[] cells;

        Row(int length) {
            cells = new int[Math.max(0, length)];
        }

        int at(int i) {
            return i >= 0 && i < cells.length ? cells[i] : 0;
        }

        void set(int i, int v) {
            if (i >= 0 && i < cells.length) {
                cells[i] = v;
            }
        }

        void takeOver(Row other) {
            for (int i = 0; i < cells.length; i++) {
                cells[i] = other.at(i);
            }
        }
    }

    /** The entries in their order. Empty ones become one as they are added. */
    private static final class Directory {
        // One more than may be: a draft must be able to show that it has too many.
        private static final int MOST_DRAFTED = MOST_ENTRIES + 1;

        private final Row kinds;
        private final Row lengths;
        private final Row names;
        private final Row handles;
        private int count;

        Directory() {
            kinds = new Row(MOST_DRAFTED);
            lengths = new Row(MOST_DRAFTED);
            names = new Row(MOST_DRAFTED);
            handles = new Row(MOST_DRAFTED);
            count = 0;
        }

        void clear() {
            count = 0;
        }

        void addEmpty(int length) {
            if (length > 0) {
                add(EMPTY, length, NO_NAME, NONE);
            }
        }

        /** Adds the entries of another directory from one on, up to and without another. */
        void addRange(Directory other, int from, int end) {
            for (int k = from; k < end; k++) {
                add(other.kindAt(k), other.lengthAt(k), other.nameAt(k), other.handleAt(k));
            }
        }

        void add(int kind, int length, int name, int handle) {
            int last = count - 1;
            if (kind == EMPTY && last >= 0 && kinds.at(last) == EMPTY) {
                lengths.set(last, lengths.at(last) + length);
            } else if (count < MOST_DRAFTED) {
                kinds.set(count, kind);
                lengths.set(count, length);
                names.set(count, name);
                handles.set(count, handle);
                count++;
            }
        }

        void takeOver(Directory other) {
            kinds.takeOver(other.kinds);
            lengths.takeOver(other.lengths);
            names.takeOver(other.names);
            handles.takeOver(other.handles);
            count = other.count;
        }

        int count() {
            return count;
        }

        int kindAt(int k) {
            return kinds.at(k);
        }

        int lengthAt(int k) {
            return lengths.at(k);
        }

        int nameAt(int k) {
            return names.at(k);
        }

        int handleAt(int k) {
            return handles.at(k);
        }

        int beginAt(int k) {
            int begin = 0;
            for (int i = 0; i < k && i < count; i++) {
                begin += lengths.at(i);
            }
            return begin;
        }

        int countOf(int kind) {
            int found = 0;
            for (int k = 0; k < count; k++) {
                if (kinds.at(k) == kind) {
                    found++;
                }
            }
            return found;
        }

        int findTentative(int handle) {
            for (int k = 0; k < count; k++) {
                if (kinds.at(k) == TENTATIVE && handles.at(k) == handle) {
                    return k;
                }
            }
            return NONE;
        }

        int findPermanent(int name) {
            for (int k = 0; k < count; k++) {
                if (kinds.at(k) == PERMANENT && names.at(k) == name) {
                    return k;
                }
            }
            return NONE;
        }

        int leastFreeHandle() {
            for (int handle = 0; handle < HANDLES; handle++) {
                if (findTentative(handle) == NONE) {
                    return handle;
                }
            }
            return NONE;
        }

        int leastHandleOf(int name) {
            for (int handle = 0; handle < HANDLES; handle++) {
                int k = findTentative(handle);
                if (k != NONE && names.at(k) == name) {
                    return handle;
                }
            }
            return NONE;
        }

        /** The smallest empty entry that is long enough, of the same ones the lowest. */
        int findRoom(int length) {
            int best = NONE;
            for (int k = 0; k < count; k++) {
                if (kinds.at(k) == EMPTY && lengths.at(k) >= length
                        && (best == NONE || lengths.at(k) < lengths.at(best))) {
                    best = k;
                }
            }
            return best;
        }

        /** The lowest empty entry with a file right behind it. */
        int findGap() {
            for (int k = 0; k + 1 < count; k++) {
                if (kinds.at(k) == EMPTY && kinds.at(k + 1) != EMPTY) {
                    return k;
                }
            }
            return NONE;
        }

        /** The greater one of half the longest empty entry and the second longest. */
        int roomToSpare() {
            int longest = 0;
            int second = 0;
            for (int k = 0; k < count; k++) {
                int length = kinds.at(k) == EMPTY ? lengths.at(k) : 0;
                second = Math.max(second, Math.min(length, longest));
                longest = Math.max(longest, length);
            }
            return Math.max(longest / 2, second);
        }

        int longestEmpty() {
            int longest = 0;
            for (int k = 0; k < count; k++) {
                if (kinds.at(k) == EMPTY) {
                    longest = Math.max(longest, lengths.at(k));
                }
            }
            return longest;
        }

        int emptyBlocks() {
            int sum = 0;
            for (int k = 0; k < count; k++) {
                if (kinds.at(k) == EMPTY) {
                    sum += lengths.at(k);
                }
            }
            return sum;
        }
    }
}
