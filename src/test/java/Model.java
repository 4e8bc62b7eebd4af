import java.util.ArrayList;
import java.util.List;
import java.util.NoSuchElementException;

/**
 * The document once more, held quite differently: every block knows its file, all that a call writes is listed as steps
 * before the first is made, and a squeeze that was broken off is the rest of its list.
 */
final class Model {
    private static final class Stored {
        int name;
        int handle;
        int kind;

        Stored(int name, int handle, int kind) {
            this.name = name;
            this.handle = handle;
            this.kind = kind;
        }
    }

    /** A write: of the ledger, of a block, or of the directory (with an owners' row if the change holds with it). */
    private static final class Step {
        boolean ledger;
        int from = -1;
        int to = -1;
        Stored[] owners;
    }

    private static final int CUT = -1;
    private final int[] ints = new int[48];
    private Stored[] owners = new Stored[48];
    private List<Step> leftOver = new ArrayList<>();
    private boolean on = true;
    private long limit = Long.MAX_VALUE;
    private int made = 0;

    int enter(int name, int blocks) {
        needPower();
        if (name < 1 || name > 999 || blocks < 0 || blocks > 48) {
            throw new IllegalArgumentException();
        }
        int handle = 0;
        while (tentative(handle) != null) {
            handle++;
        }
        if (handle > 3) {
            throw new IllegalStateException();
        }
        List<int[]> gaps = gaps(owners);
        gaps.sort((a, b) -> a[1] != b[1] ? a[1] - b[1] : a[0] - b[0]);
        int wanted = blocks;
        if (blocks == 0 && !gaps.isEmpty()) {
            int second = gaps.size() > 1 ? gaps.get(gaps.size() - 2)[1] : 0;
            wanted = Math.max(gaps.get(gaps.size() - 1)[1] / 2, second);
        }
        Stored[] next = owners.clone();
        for (int[] gap : gaps) {
            if (wanted > 0 && gap[1] >= wanted) {
                Stored file = new Stored(name, handle, 1);
                for (int i = 0; i < wanted; i++) {
                    next[gap[0] + i] = file;
                }
                refuseMany(next);
                return make(changeTo(next)) ? handle : CUT;
            }
        }
        throw new UnsupportedOperationException();
    }

    int put(int handle, int block, int v) {
        needPower();
        Stored file = needed(tentative(handle));
        needBlock(file, block);
        if (!spend()) {
            return CUT;
        }
        ints[begin(owners, file) + block] = v;
        return 0;
    }

    int close(int handle, int used) {
        needPower();
        Stored file = needed(tentative(handle));
        int length = length(owners, file);
        if (used < 1 || used > length) {
            throw new IllegalArgumentException();
        }
        Stored older = permanent(file.name);
        Stored closed = new Stored(file.name, -1, 2);
        Stored[] next = owners.clone();
        int used1 = 0;
        int gained = 0;
        for (int b = 0; b < 48; b++) {
            if (owners[b] == file && used1 < used) {
                next[b] = closed;
                used1++;
            } else if (owners[b] != null && (owners[b] == file || owners[b] == older)) {
                next[b] = null;
                gained++;
            }
        }
        refuseMany(next);
        return make(changeTo(next)) ? gained : CUT;
    }

    int purge(int handle) {
        needPower();
        return drop(needed(tentative(handle)));
    }

    int delete(int name) {
        needPower();
        return drop(needed(permanent(name)));
    }

    int rename(int name, int to) {
        needPower();
        if (to < 1 || to > 999) {
            throw new IllegalArgumentException();
        }
        Stored file = needed(permanent(name));
        if (permanent(to) != null) {
            throw new UnsupportedOperationException();
        }
        Stored[] next = owners.clone();
        Stored renamed = new Stored(to, -1, 2);
        for (int b = 0; b < 48; b++) {
            next[b] = owners[b] == file ? renamed : owners[b];
        }
        return make(changeTo(next)) ? 0 : CUT;
    }

    int read(int name, int block) {
        needPower();
        Stored file = needed(permanent(name));
        needBlock(file, block);
        return ints[begin(owners, file) + block];
    }

    int squeeze() {
        needPower();
        if (withoutTentative() != null) {
            throw new IllegalStateException();
        }
        List<Step> steps = planSqueeze();
        int copies = 0;
        for (Step step : steps) {
            copies += step.from >= 0 ? 1 : 0;
        }
        return make(steps) ? copies : CUT;
    }

    int mount() {
        if (on) {
            throw new IllegalStateException();
        }
        on = true;
        limit = Long.MAX_VALUE;
        List<Step> rest = leftOver;
        leftOver = new ArrayList<>();
        make(rest);
        Stored[] next = withoutTentative();
        if (next != null) {
            make(changeTo(next));
        }
        int count = 0;
        for (int[] run : runs(owners)) {
            count += owners[run[0]] != null ? 1 : 0;
        }
        return count;
    }

    void cutAfter(int n) {
        needPower();
        if (n < -1) {
            throw new IllegalArgumentException();
        }
        limit = n == -1 ? Long.MAX_VALUE : (long) made + n;
    }

    int entry(int k, int what) {
        needPower();
        if (what < 0 || what > 3) {
            throw new IllegalArgumentException();
        }
        List<int[]> runs = runs(owners);
        if (k < 0 || k >= runs.size()) {
            throw new IndexOutOfBoundsException();
        }
        Stored file = owners[runs.get(k)[0]];
        return what == 0 ? (file == null ? 0 : file.kind)
                : what == 3 ? (file == null ? 0 : file.name)
                : runs.get(k)[what - 1];
    }

    int entries() {
        needPower();
        return runs(owners).size();
    }

    int free(boolean longest) {
        needPower();
        int most = 0;
        int sum = 0;
        for (int[] gap : gaps(owners)) {
            most = Math.max(most, gap[1]);
            sum += gap[1];
        }
        return longest ? most : sum;
    }

    int handle(int name) {
        needPower();
        for (int handle = 0; handle < 4; handle++) {
            Stored file = tentative(handle);
            if (file != null && file.name == name) {
                return handle;
            }
        }
        return -1;
    }

    int writes() {
        return made;
    }

    boolean isOn() {
        return on;
    }

    private void needPower() {
        if (!on) {
            throw new IllegalStateException();
        }
    }

    private Stored needed(Stored file) {
        if (file == null) {
            throw new NoSuchElementException();
        }
        return file;
    }

    private void needBlock(Stored file, int block) {
        if (block < 0 || block >= length(owners, file)) {
            throw new IllegalArgumentException();
        }
    }

    private void refuseMany(Stored[] next) {
        if (runs(next).size() > 16) {
            throw new UnsupportedOperationException();
        }
    }

    private Stored tentative(int handle) {
        for (Stored file : owners) {
            if (file != null && file.kind == 1 && file.handle == handle) {
                return file;
            }
        }
        return null;
    }

    private Stored permanent(int name) {
        for (Stored file : owners) {
            if (file != null && file.kind == 2 && file.name == name) {
                return file;
            }
        }
        return null;
    }

    private static int begin(Stored[] row, Stored file) {
        int b = 0;
        while (row[b] != file) {
            b++;
        }
        return b;
    }

    private static int length(Stored[] row, Stored file) {
        int length = 0;
        for (Stored owner : row) {
            length += owner == file ? 1 : 0;
        }
        return length;
    }

    /** Begin and length of each run of blocks with one owner. */
    private static List<int[]> runs(Stored[] row) {
        List<int[]> runs = new ArrayList<>();
        for (int b = 0; b < 48; b++) {
            if (b == 0 || row[b] != row[b - 1]) {
                runs.add(new int[] {b, 0});
            }
            runs.get(runs.size() - 1)[1]++;
        }
        return runs;
    }

    private static List<int[]> gaps(Stored[] row) {
        List<int[]> gaps = runs(row);
        gaps.removeIf(run -> row[run[0]] != null);
        return gaps;
    }

    private int drop(Stored file) {
        Stored[] next = owners.clone();
        for (int b = 0; b < 48; b++) {
            next[b] = owners[b] == file ? null : owners[b];
        }
        int length = length(owners, file);
        return make(changeTo(next)) ? length : CUT;
    }

    /** Null if there is no tentative file. */
    private Stored[] withoutTentative() {
        Stored[] next = owners.clone();
        boolean any = false;
        for (int b = 0; b < 48; b++) {
            if (next[b] != null && next[b].kind == 1) {
                next[b] = null;
                any = true;
            }
        }
        return any ? next : null;
    }

    private static List<Step> changeTo(Stored[] next) {
        List<Step> steps = new ArrayList<>();
        for (int entries = runs(next).size(); entries > 0; entries -= 4) {
            steps.add(new Step());
        }
        Step last = new Step();
        last.owners = next;
        steps.add(last);
        return steps;
    }

    private List<Step> planSqueeze() {
        List<Step> steps = new ArrayList<>();
        Stored[] row = owners;
        for (int b = 1; b < 48; b++) {
            if (row[b] == null || row[b - 1] != null) {
                continue;
            }
            Stored file = row[b];
            int way = 0;
            while (b - way > 0 && row[b - way - 1] == null) {
                way++;
            }
            int length = length(row, file);
            Stored[] next = row.clone();
            for (int i = 0; i < length; i++) {
                if (i % Math.min(8, way) == 0) {
                    Step ledger = new Step();
                    ledger.ledger = true;
                    steps.add(ledger);
                }
                Step copy = new Step();
                copy.from = b + i;
                copy.to = b - way + i;
                steps.add(copy);
                next[b + i] = null;
            }
            for (int i = 0; i < length; i++) {
                next[b - way + i] = file;
            }
            steps.addAll(changeTo(next));
            row = next;
            b += length - 1;
        }
        return steps;
    }

    private boolean spend() {
        if (made >= limit) {
            on = false;
            return false;
        }
        made++;
        return true;
    }

    private boolean make(List<Step> steps) {
        int lastLedger = -1;
        for (int i = 0; i < steps.size(); i++) {
            Step step = steps.get(i);
            if (!spend()) {
                if (steps.get(0).ledger && i > 0) {
                    leftOver = new ArrayList<>(steps.subList(lastLedger < 0 ? i : lastLedger + 1, steps.size()));
                }
                return false;
            }
            if (step.ledger) {
                lastLedger = i;
            }
            if (step.from >= 0) {
                ints[step.to] = ints[step.from];
            }
            if (step.owners != null) {
                owners = step.owners;
                lastLedger = -1;
            }
        }
        return true;
    }
}
