/** Long runs of calls on the volume and on the model: every answer and all that can be seen must be the same. */
final class ModelTests {
    private static final int CALLS = 512;
    private static final int[] STRANGE = {-1, 0, 16, 48, 49, 1000, -2, Integer.MIN_VALUE, Integer.MAX_VALUE};

    private long state;
    private final SqueezedVolume volume = new SqueezedVolume();
    private final Model model = new Model();
    private final int most;

    private ModelTests(int run) {
        state = run * 7919L + 17;
        // Runs differ in how long their files are: short ones fill the directory, long ones the blocks.
        most = 1 + run % 13;
    }

    static void runAll() {
        Check.run("all: 200 runs like the model", () -> {
            for (int run = 0; run < 200; run++) {
                new ModelTests(run).compare(run);
            }
        });
    }

    /** A row of numbers that is the same each time. */
    private int next(int bound) {
        state = state * 6364136223846793005L + 1442695040888963407L;
        return (int) ((state >>> 33) % bound);
    }

    /** Mostly 0 .. bound - 1, sometimes a strange one. */
    private int some(int low, int bound) {
        return next(25) == 0 ? STRANGE[next(STRANGE.length)] : low + next(bound);
    }

    private void compare(int run) {
        for (int i = 0; i < CALLS; i++) {
            if (!call("run " + run + ", call " + i + ": ")) {
                return;
            }
        }
    }

    private boolean call(String where) {
        int kind = next(100);
        int a = some(1, 20);
        int b = some(1, 20);
        int handle = some(0, 4);
        int length = some(0, most + 1);
        if (!volume.isOn() && kind < 50) {
            return same(where + "mount()", volume::mount, model::mount);
        } else if (kind < 25) {
            return same(where + "enter(" + a + ", " + length + ")",
                    () -> volume.enter(a, length), () -> model.enter(a, length));
        } else if (kind < 50) {
            return same(where + "put(" + handle + ", " + length + ", " + kind + ")",
                    () -> volume.put(handle, length, kind * b), () -> model.put(handle, length, kind * b));
        } else if (kind < 68) {
            return same(where + "close(" + handle + ", " + length + ")",
                    () -> volume.close(handle, length), () -> model.close(handle, length));
        } else if (kind < 71) {
            return same(where + "purge(" + handle + ")", () -> volume.purge(handle), () -> model.purge(handle));
        } else if (kind < 79) {
            return same(where + "delete(" + a + ")", () -> volume.delete(a), () -> model.delete(a));
        } else if (kind < 83) {
            return same(where + "rename(" + a + ", " + b + ")",
                    () -> volume.rename(a, b), () -> model.rename(a, b));
        } else if (kind < 92) {
            return same(where + "squeeze()", volume::squeeze, model::squeeze);
        } else if (kind < 97) {
            int n = next(4) == 0 ? some(-1, 3) : some(0, 60);
            return same(where + "cutAfter(" + n + ")", () -> cutAfter(n), () -> cutModelAfter(n));
        }
        return same(where + "mount()", volume::mount, model::mount);
    }

    private long cutAfter(int n) {
        volume.cutAfter(n);
        return 0;
    }

    private long cutModelAfter(int n) {
        model.cutAfter(n);
        return 0;
    }

    private boolean same(String call, Check.Call mine, Check.Call models) {
        String got = Check.outcome(mine);
        String want = Check.outcome(models);
        Check.due(call, got, want);
        return got.equals(want) && sameView(call);
    }

    private boolean sameView(String call) {
        StringBuilder got = new StringBuilder();
        StringBuilder want = new StringBuilder();
        look(got, want, volume::writes, model::writes);
        look(got, want, () -> volume.isOn() ? 1 : 0, () -> model.isOn() ? 1 : 0);
        look(got, want, volume::entries, model::entries);
        look(got, want, () -> volume.free(true), () -> model.free(true));
        look(got, want, () -> volume.free(false), () -> model.free(false));
        int strange = STRANGE[next(STRANGE.length)];
        for (int what = 0; what < 4; what++) {
            int asked = what;
            look(got, want, () -> volume.entry(strange, asked), () -> model.entry(strange, asked));
            for (int k = 0; k <= 17; k++) {
                int at = k;
                look(got, want, () -> volume.entry(at, asked), () -> model.entry(at, asked));
            }
        }
        look(got, want, () -> volume.entry(strange, strange), () -> model.entry(strange, strange));
        for (int name = 0; name <= 20; name++) {
            int asked = name;
            look(got, want, () -> volume.handle(asked), () -> model.handle(asked));
            look(got, want, () -> volume.read(asked, next20()), () -> model.read(asked, next20()));
            look(got, want, () -> volume.read(asked, strange), () -> model.read(asked, strange));
        }
        Check.due("the view behind " + call, got.toString(), want.toString());
        return got.toString().equals(want.toString());
    }

    /** One of the first blocks, the same one until the next number is drawn. */
    private int next20() {
        return (int) ((state >>> 40) % 8);
    }

    private static void look(StringBuilder got, StringBuilder want, Check.Call mine, Check.Call models) {
        got.append(Check.outcome(mine)).append(' ');
        want.append(Check.outcome(models)).append(' ');
    }
}
