/** The power failure at any write that does no harm: every run is cut behind each of its writes. */
final class PowerCutTests {
    private static final int CUT = SqueezedVolume.CUT;

    private PowerCutTests() {
    }

    static void runAll() {
        for (int way = 1; way <= 12; way++) {
            for (int length : new int[] {1, 7, 8, 9, 16, 17, 30}) {
                int first = way;
                Check.run("10: a squeeze of " + length + " by " + way + ", cut behind each write",
                        () -> cutEverywhere(new int[] {first, length}, 1));
            }
        }
        Check.run("10: a squeeze of many, cut behind each write",
                () -> cutEverywhere(new int[] {2, 5, 3, 9, 1, 10, 4, 6}, 1, 3, 5, 7));
        Check.run("10: a squeeze of 15 entries, cut behind each write",
                () -> cutEverywhere(new int[] {1, 2, 1, 2, 3, 2, 1, 4, 1, 5, 2, 6, 1, 7}, 1, 3, 5, 8, 13));
    }

    private static SqueezedVolume ready(int[] lengths, int... deleted) {
        return Volumes.without(Volumes.filled(lengths), deleted);
    }

    private static void cutEverywhere(int[] lengths, int... deleted) {
        SqueezedVolume whole = ready(lengths, deleted);
        String content = Volumes.content(whole);
        String before = Volumes.layout(whole);
        int writes = whole.writes();
        whole.squeeze();
        int all = whole.writes() - writes;
        Check.due("content", Volumes.content(whole), content);
        for (int n = 0; n < all; n++) {
            SqueezedVolume v = ready(lengths, deleted);
            v.cutAfter(n);
            Check.due("squeeze cut behind " + n, v.squeeze(), CUT);
            Check.due("writes", v.writes() - writes, n);
            v.mount();
            Check.due("content behind " + n, Volumes.content(v), content);
            Check.due("layout behind " + n, Volumes.layout(v), n == 0 ? before : Volumes.layout(whole));
            int again = v.writes() - writes - all;
            // At the most one group of 8 is copied twice, and one change of 6 writes begun twice.
            if (n > 0 && (again < 0 || again > 8 + 5)) {
                Check.due("writes made twice behind " + n, again, 0);
            }
        }
        SqueezedVolume v = ready(lengths, deleted);
        v.cutAfter(all);
        v.squeeze();
        Check.due("isOn with just enough writes", v.isOn() ? 1 : 0, 1);
    }
}
