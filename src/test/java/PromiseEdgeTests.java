import java.util.NoSuchElementException;

/** The document's promises, sentence by sentence: each edge on both sides, and refused calls that change nothing. */
final class PromiseEdgeTests {
    private static final Class<IllegalStateException> STATE = IllegalStateException.class;
    private static final Class<IllegalArgumentException> ARGUMENT = IllegalArgumentException.class;
    private static final Class<NoSuchElementException> NO_ELEMENT = NoSuchElementException.class;
    private static final Class<UnsupportedOperationException> UNSUPPORTED = UnsupportedOperationException.class;
    private static final Class<IndexOutOfBoundsException> BOUNDS = IndexOutOfBoundsException.class;
    private static final int CUT = SqueezedVolume.CUT;
    private static final int LEAST = Integer.MIN_VALUE;
    private static final int MOST = Integer.MAX_VALUE;

    private PromiseEdgeTests() {
    }

    static void runAll() {
        Check.run("1, edge: one empty entry, no writes, power on", PromiseEdgeTests::newObject);
        Check.run("1, edge: power does not fail in 512 calls", PromiseEdgeTests::newObjectLasts);
        Check.run("2, edge: blocks 0 .. 48", PromiseEdgeTests::enterBlocks);
        Check.run("2, edge: name 1 .. 999", PromiseEdgeTests::enterNames);
        Check.run("2, edge: the smallest entry that is long enough", PromiseEdgeTests::enterSmallest);
        Check.run("2, edge: of the same ones the lowest", PromiseEdgeTests::enterLowest);
        Check.run("2, edge: at the beginning of it", PromiseEdgeTests::enterBeginning);
        Check.run("2, edge: half the longest, rounded down", PromiseEdgeTests::enterHalf);
        Check.run("2, edge: half the longest or the second longest", PromiseEdgeTests::enterSecond);
        Check.run("2, edge: 0 blocks lie where as many would", PromiseEdgeTests::enterZeroPlaces);
        Check.run("2, edge: 0 would be asked for", PromiseEdgeTests::enterNothing);
        Check.run("2, edge: blocks keep what they have", PromiseEdgeTests::enterKeeps);
        Check.run("2, edge: the least handle that is free", PromiseEdgeTests::enterLeastHandle);
        Check.run("2, edge: 4 tentative files", PromiseEdgeTests::enterFour);
        Check.run("2, edge: no empty entry is long enough", PromiseEdgeTests::enterNoRoom);
        Check.run("2, edge: more than 16 entries", PromiseEdgeTests::enterSeventeen);
        Check.run("3, edge: the first and the last block", PromiseEdgeTests::putBlocks);
        Check.run("3, edge: no such handle", PromiseEdgeTests::putHandles);
        Check.run("3, edge: CUT", PromiseEdgeTests::putCut);
        Check.run("4, edge: used is 1 .. the length", PromiseEdgeTests::closeUsed);
        Check.run("4, edge: no such handle", PromiseEdgeTests::closeHandles);
        Check.run("4, edge: an older permanent file", PromiseEdgeTests::closeOlder);
        Check.run("4, edge: how many more are empty", PromiseEdgeTests::closeAnswers);
        Check.run("4, edge: more than 16 entries", PromiseEdgeTests::closeSeventeen);
        Check.run("4, edge: CUT, the handle is gone", PromiseEdgeTests::closeCut);
        Check.run("5, edge: purge", PromiseEdgeTests::purge);
        Check.run("6, edge: delete", PromiseEdgeTests::delete);
        Check.run("7, edge: to is 1 .. 999", PromiseEdgeTests::renameTo);
        Check.run("7, edge: there is none with the name", PromiseEdgeTests::renameName);
        Check.run("7, edge: there is one with the name to", PromiseEdgeTests::renameTaken);
        Check.run("8, edge: the first and the last block", PromiseEdgeTests::readBlocks);
        Check.run("8, edge: there is none with the name", PromiseEdgeTests::readNames);
        Check.run("9, edge: tentative files", PromiseEdgeTests::squeezeTentative);
        Check.run("9, edge: how many blocks, or CUT", PromiseEdgeTests::squeezeAnswers);
        Check.run("10, edge: power is on", PromiseEdgeTests::mountOn);
        Check.run("10, edge: fails no more until said anew", PromiseEdgeTests::mountFailsNoMore);
        Check.run("10, edge: how many permanent files", PromiseEdgeTests::mountAnswers);
        Check.run("11, edge: n is -1 or more", PromiseEdgeTests::cutAfterBound);
        Check.run("11, edge: n counts from now on", PromiseEdgeTests::cutAfterNow);
        Check.run("11, edge: in place of what was said before", PromiseEdgeTests::cutAfterInPlace);
        Check.run("12, edge: what is 0 .. 3", PromiseEdgeTests::entryWhat);
        Check.run("12, edge: the first and the last entry", PromiseEdgeTests::entryBounds);
        Check.run("12, edge: an empty one's name is 0", PromiseEdgeTests::entryNames);
        Check.run("13, edge: 1 to 16 entries", PromiseEdgeTests::entriesAll);
        Check.run("14, edge: 0 without any, 48 at first", PromiseEdgeTests::freeBounds);
        Check.run("14, edge: the longest one, all together", PromiseEdgeTests::freeSums);
        Check.run("15, edge: of several the least, -1 for none", PromiseEdgeTests::handleLeast);
        Check.run("16, edge: writes when power is off", PromiseEdgeTests::writesOff);
        Check.run("17, edge: isOn before and behind", PromiseEdgeTests::isOnEdges);
    }

    private static void newObject() {
        SqueezedVolume v = new SqueezedVolume();
        Check.due("view", Volumes.view(v), "-:48, 1 entries, free 48 of 48, 0 writes, ");
        Check.due("isOn", v.isOn() ? 1 : 0, 1);
        Volumes.refused("handle 0", NO_ELEMENT, v, () -> v.purge(0));
        Volumes.refused("name 1", NO_ELEMENT, v, () -> v.delete(1));
        Volumes.refused("entry 1", BOUNDS, v, () -> v.entry(1, 0));
    }

    private static void newObjectLasts() {
        SqueezedVolume v = new SqueezedVolume();
        v.enter(1, 48);
        for (int call = 2; call <= 511; call++) {
            Check.due("call " + call, v.put(0, call % 48, call), 0);
        }
        Check.due("isOn", v.isOn() ? 1 : 0, 1);
    }

    private static void enterBlocks() {
        for (int blocks : new int[] {LEAST, -2, -1, 49, 50, MOST}) {
            SqueezedVolume v = new SqueezedVolume();
            Volumes.refused("blocks " + blocks, ARGUMENT, v, () -> v.enter(1, blocks));
        }
        for (int blocks : new int[] {1, 2, 47, 48}) {
            SqueezedVolume v = new SqueezedVolume();
            Check.due("blocks " + blocks, v.enter(1, blocks), 0);
            Check.due("length", v.entry(0, 2), blocks);
        }
        SqueezedVolume v = new SqueezedVolume();
        Check.due("blocks 0", v.enter(1, 0), 0);
        Check.due("length", v.entry(0, 2), 24);
    }

    private static void enterNames() {
        SqueezedVolume v = Volumes.filled(2);
        for (int name : new int[] {LEAST, -1, 0, 1000, 1001, MOST}) {
            Volumes.refused("name " + name, ARGUMENT, v, () -> v.enter(name, 1));
            Volumes.refused("name " + name + ", 0 blocks", ARGUMENT, v, () -> v.enter(name, 0));
        }
        Check.due("name 1, though there is a permanent one", v.enter(1, 1), 0);
        Check.due("name 999", v.enter(999, 1), 1);
        Check.due("name 1, though there is a tentative one", v.enter(1, 1), 2);
        Check.due("layout", Volumes.layout(v), "p1:2 t1:1 t999:1 t1:1 -:43");
    }

    /** Empty entries of 5, 3, 4 and 30 blocks. */
    private static SqueezedVolume fourGaps() {
        return Volumes.without(Volumes.filled(5, 2, 3, 2, 4, 2), 1, 3, 5);
    }

    private static void enterSmallest() {
        Check.due("ready", Volumes.layout(fourGaps()), "-:5 p2:2 -:3 p4:2 -:4 p6:2 -:30");
        dueEntered(fourGaps(), 1, "-:5 p2:2 t9:1 -:2 p4:2 -:4 p6:2 -:30");
        dueEntered(fourGaps(), 3, "-:5 p2:2 t9:3 p4:2 -:4 p6:2 -:30");
        dueEntered(fourGaps(), 4, "-:5 p2:2 -:3 p4:2 t9:4 p6:2 -:30");
        dueEntered(fourGaps(), 5, "t9:5 p2:2 -:3 p4:2 -:4 p6:2 -:30");
        dueEntered(fourGaps(), 6, "-:5 p2:2 -:3 p4:2 -:4 p6:2 t9:6 -:24");
        dueEntered(fourGaps(), 30, "-:5 p2:2 -:3 p4:2 -:4 p6:2 t9:30");
        SqueezedVolume v = fourGaps();
        Volumes.refused("31", UNSUPPORTED, v, () -> v.enter(9, 31));
    }

    private static void dueEntered(SqueezedVolume v, int blocks, String layout) {
        String ints = Volumes.content(v);
        Check.due("enter " + blocks, v.enter(9, blocks), 0);
        Check.due("layout", Volumes.layout(v), layout);
        Check.due("the other files", Volumes.content(v), ints);
    }

    private static void enterLowest() {
        SqueezedVolume v = Volumes.without(Volumes.filled(6, 1, 4, 1, 4, 1, 4, 1), 1, 3, 5, 7);
        Check.due("ready", Volumes.layout(v), "-:6 p2:1 -:4 p4:1 -:4 p6:1 -:4 p8:1 -:26");
        v.enter(11, 4);
        Check.due("layout", Volumes.layout(v), "-:6 p2:1 t11:4 p4:1 -:4 p6:1 -:4 p8:1 -:26");
        v.enter(12, 3);
        Check.due("layout", Volumes.layout(v), "-:6 p2:1 t11:4 p4:1 t12:3 -:1 p6:1 -:4 p8:1 -:26");
        v.enter(13, 3);
        Check.due("layout", Volumes.layout(v), "-:6 p2:1 t11:4 p4:1 t12:3 -:1 p6:1 t13:3 -:1 p8:1 -:26");
        v.enter(14, 1);
        Check.due("layout", Volumes.layout(v), "-:6 p2:1 t11:4 p4:1 t12:3 t14:1 p6:1 t13:3 -:1 p8:1 -:26");
        v.purge(0);
        v.enter(15, 5);
        Check.due("layout", Volumes.layout(v), "t15:5 -:1 p2:1 -:4 p4:1 t12:3 t14:1 p6:1 t13:3 -:1 p8:1 -:26");
    }

    private static void enterBeginning() {
        SqueezedVolume v = Volumes.without(Volumes.filled(7, 5, 36), 2);
        v.enter(9, 2);
        Check.due("begins where the empty one began", v.entry(1, 1), 7);
        Check.due("the rest begins behind it", v.entry(2, 1), 9);
        v.put(0, 0, 91);
        v.put(0, 1, 92);
        v.close(0, 2);
        Check.due("only its blocks are written", Volumes.allInts(v).substring(0, 56),
                "999( 100 101 102 103 104 105 106 91 92 202 203 204 300 3");
    }

    private static void enterHalf() {
        int[][] due = {{48, 24}, {47, 23}, {5, 2}, {4, 2}, {3, 1}, {2, 1}};
        for (int[] one : due) {
            SqueezedVolume v = one[0] == 48 ? new SqueezedVolume() : Volumes.files(1, 48 - one[0]);
            Check.due("enter", v.enter(9, 0), 0);
            Check.due("half of " + one[0], v.entry(v.entries() - 2, 2), one[1]);
        }
        SqueezedVolume v = new SqueezedVolume();
        v.enter(9, 5);
        v.purge(0);
        v.enter(9, 0);
        Check.due("an empty entry that was there is no second one", Volumes.layout(v), "t9:24 -:24");
    }

    private static void enterSecond() {
        // The longest, the second longest, what 0 asks for.
        int[][] due = {{10, 4, 5}, {10, 5, 5}, {10, 6, 6}, {10, 10, 10}, {11, 4, 5}, {11, 5, 5}, {11, 6, 6}, {10, 1, 5},
            {2, 1, 1}, {1, 1, 1}, {3, 1, 1}, {3, 2, 2}};
        for (int[] one : due) {
            dueSecond(one[0], one[1], one[2]);
            dueSecond(one[1], one[0], one[2]);
        }
        SqueezedVolume v = Volumes.without(Volumes.filled(3, 1, 9, 1, 7, 20, 7), 1, 3, 5, 7);
        Check.due("ready", Volumes.layout(v), "-:3 p2:1 -:9 p4:1 -:7 p6:20 -:7");
        v.enter(20, 0);
        Check.due("the second of 3, 9, 7 and 7", Volumes.layout(v), "-:3 p2:1 -:9 p4:1 t20:7 p6:20 -:7");
    }

    private static void dueSecond(int first, int last, int asked) {
        SqueezedVolume v = Volumes.without(Volumes.filled(first, 48 - first - last, last), 1, 3);
        SqueezedVolume same = Volumes.without(Volumes.filled(first, 48 - first - last, last), 1, 3);
        Check.due("enter 0", v.enter(20, 0), 0);
        Check.due("enter " + asked, same.enter(20, asked), 0);
        Check.due("of " + first + " and " + last, Volumes.view(v), Volumes.view(same));
    }

    private static void enterZeroPlaces() {
        SqueezedVolume v = Volumes.without(Volumes.filled(20, 1, 10, 1, 12, 4), 1, 3, 5);
        Check.due("ready", Volumes.layout(v), "-:20 p2:1 -:10 p4:1 -:12 p6:4");
        v.enter(21, 0);
        Check.due("12 of 20 and 12", Volumes.layout(v), "-:20 p2:1 -:10 p4:1 t21:12 p6:4");
        v.enter(22, 0);
        Check.due("10 of 20 and 10", Volumes.layout(v), "-:20 p2:1 t22:10 p4:1 t21:12 p6:4");
        v.enter(23, 0);
        Check.due("10 of 20 alone", Volumes.layout(v), "t23:10 -:10 p2:1 t22:10 p4:1 t21:12 p6:4");
    }

    private static void enterNothing() {
        SqueezedVolume full = Volumes.files(1, 48);
        Volumes.refused("no empty block", UNSUPPORTED, full, () -> full.enter(9, 0));
        Volumes.refused("no empty block", UNSUPPORTED, full, () -> full.enter(9, 1));
        SqueezedVolume one = Volumes.files(1, 47);
        Volumes.refused("half of 1", UNSUPPORTED, one, () -> one.enter(9, 0));
        Check.due("1 of 1", one.enter(9, 1), 0);
        SqueezedVolume two = Volumes.files(1, 46);
        Check.due("half of 2", two.enter(9, 0), 0);
        Check.due("layout", Volumes.layout(two), "p1:46 t9:1 -:1");
    }

    private static void enterKeeps() {
        SqueezedVolume v = Volumes.filled(3, 2);
        v.delete(1);
        Volumes.fillNothing(v, 8, 2);
        Check.due("of a deleted file", Volumes.content(v), "8( 100 101 ) 2( 200 201 ) ");
        v.enter(9, 4);
        v.put(0, 3, 93);
        v.purge(0);
        Volumes.fillNothing(v, 10, 4);
        Check.due("of a purged file", v.read(10, 3), 93);
        Check.due("never written", v.read(10, 2), 0);
    }

    private static void enterLeastHandle() {
        SqueezedVolume v = new SqueezedVolume();
        Check.due("none is taken", v.enter(9, 1), 0);
        Check.due("0 is taken", v.enter(9, 1), 1);
        v.purge(0);
        Check.due("1 is taken", v.enter(9, 1), 0);
        Check.due("0 and 1 are", v.enter(9, 1), 2);
        Check.due("0 to 2 are", v.enter(9, 1), 3);
        v.close(1, 1);
        v.purge(2);
        Check.due("0 and 3 are", v.enter(9, 1), 1);
        Check.due("0, 1 and 3 are", v.enter(9, 1), 2);
        v.purge(3);
        Check.due("0 to 2 are", v.enter(9, 1), 3);
    }

    private static void enterFour() {
        SqueezedVolume v = Volumes.files(3, 2);
        for (int i = 0; i < 4; i++) {
            Check.due("permanent ones do not count", v.enter(20 + i, 3), i);
        }
        Volumes.refused("a fifth", STATE, v, () -> v.enter(24, 1));
        Volumes.refused("a fifth, 0 blocks", STATE, v, () -> v.enter(24, 0));
        Volumes.refused("a fifth, no room", STATE, v, () -> v.enter(24, 48));
        v.close(2, 3);
        Check.due("behind close", v.enter(24, 1), 2);
        Volumes.refused("a fifth", STATE, v, () -> v.enter(25, 1));
        v.purge(1);
        Check.due("behind purge", v.enter(25, 1), 1);
    }

    private static void enterNoRoom() {
        SqueezedVolume v = Volumes.without(Volumes.filled(9, 10, 9, 12), 1, 3);
        Check.due("ready", Volumes.layout(v), "-:9 p2:10 -:9 p4:12 -:8");
        Volumes.refused("10 of 9, though 26 are empty", UNSUPPORTED, v, () -> v.enter(9, 10));
        Volumes.refused("48", UNSUPPORTED, v, () -> v.enter(9, 48));
        Check.due("9 of 9", v.enter(9, 9), 0);
        Check.due("9 of 9", v.enter(9, 9), 1);
        Volumes.refused("9 of 8", UNSUPPORTED, v, () -> v.enter(9, 9));
        Check.due("8 of 8", v.enter(9, 8), 2);
        Volumes.refused("1 of none", UNSUPPORTED, v, () -> v.enter(9, 1));
    }

    private static void enterSeventeen() {
        SqueezedVolume v = Volumes.files(15, 3);
        Check.due("entries", v.entries(), 16);
        Volumes.refused("1 of 3", UNSUPPORTED, v, () -> v.enter(20, 1));
        Volumes.refused("2 of 3", UNSUPPORTED, v, () -> v.enter(20, 2));
        Volumes.refused("half of 3", UNSUPPORTED, v, () -> v.enter(20, 0));
        Check.due("3 of 3", v.enter(20, 3), 0);
        v.purge(0);
        v.delete(7);
        Check.due("entries", v.entries(), 16);
        Check.due("0 asks for 3 of two with 3", v.enter(20, 0), 0);
        Check.due("it lies in the lower one", v.entry(6, 3), 20);
        v.purge(0);
        v.delete(15);
        Check.due("entries", v.entries(), 15);
        Check.due("1 of 3, the 16th", v.enter(20, 1), 0);
        Check.due("entries", v.entries(), 16);
        Volumes.refused("1 of 2, the 17th", UNSUPPORTED, v, () -> v.enter(21, 1));
    }

    private static void putBlocks() {
        for (int length : new int[] {1, 2, 7}) {
            SqueezedVolume v = Volumes.filled(4);
            v.enter(9, length);
            for (int block : new int[] {LEAST, -1, length, length + 1, 47, 48, MOST}) {
                Volumes.refused("block " + block + " of " + length, ARGUMENT, v, () -> v.put(0, block, 77));
            }
            Check.due("the first", v.put(0, 0, 5), 0);
            Check.due("the last", v.put(0, length - 1, 6), 0);
            String due = "100 101 102 103" + (length == 1 ? "" : " 5" + " 0".repeat(length - 2)) + " 6";
            Check.due("ints", Volumes.allInts(v), "999( " + due + " 0".repeat(44 - length) + " ) ");
        }
    }

    private static void putHandles() {
        SqueezedVolume v = Volumes.filled(4);
        v.enter(8, 2);
        v.enter(9, 2);
        v.close(0, 2);
        for (int handle : new int[] {LEAST, -1, 0, 2, 3, 4, 8, 9, MOST}) {
            Volumes.refused("handle " + handle, NO_ELEMENT, v, () -> v.put(handle, 0, 77));
        }
        Check.due("handle 1", v.put(1, 0, 5), 0);
        v.purge(1);
        Volumes.refused("handle 1, purged", NO_ELEMENT, v, () -> v.put(1, 0, 77));
    }

    private static void putCut() {
        SqueezedVolume v = Volumes.filled(1);
        v.enter(9, 2);
        v.cutAfter(1);
        Check.due("a write is left", v.put(0, 0, 5), 0);
        Check.due("none is left", Volumes.spent(v, () -> {
            Check.due("put", v.put(0, 1, 6), CUT);
            return 0;
        }), 0);
        Check.due("isOn", v.isOn() ? 1 : 0, 0);
        Check.due("mount", v.mount(), 1);
        Volumes.fillNothing(v, 8, 2);
        Check.due("content", Volumes.content(v), "1( 100 ) 8( 5 0 ) ");
    }

    private static void closeUsed() {
        for (int length : new int[] {1, 2, 6}) {
            for (int used = 1; used <= length; used++) {
                SqueezedVolume v = Volumes.filled(4);
                v.enter(9, length);
                v.enter(8, 1);
                for (int wrong : new int[] {LEAST, -1, 0, length + 1, 48, MOST}) {
                    Volumes.refused("used " + wrong + " of " + length, ARGUMENT, v, () -> v.close(0, wrong));
                }
                Check.due("used " + used + " of " + length, v.close(0, used), length - used);
                String rest = used < length ? " -:" + (length - used) : "";
                Check.due("layout", Volumes.layout(v), "p1:4 p9:" + used + rest + " t8:1 -:" + (43 - length));
            }
        }
        SqueezedVolume all = new SqueezedVolume();
        all.enter(9, 48);
        Volumes.refused("49", ARGUMENT, all, () -> all.close(0, 49));
        Check.due("all 48", all.close(0, 48), 0);
        SqueezedVolume one = new SqueezedVolume();
        one.enter(9, 48);
        Check.due("one of 48", one.close(0, 1), 47);
    }

    private static void closeHandles() {
        SqueezedVolume v = Volumes.filled(4);
        v.enter(8, 2);
        v.enter(9, 2);
        v.purge(0);
        for (int handle : new int[] {LEAST, -1, 0, 2, 3, 4, 9, MOST}) {
            Volumes.refused("handle " + handle, NO_ELEMENT, v, () -> v.close(handle, 1));
        }
        Check.due("handle 1", v.close(1, 1), 1);
        Volumes.refused("handle 1, closed", NO_ELEMENT, v, () -> v.close(1, 1));
        Check.due("handle 0 is free", v.enter(7, 1), 0);
        Check.due("handle 1 is free", v.enter(7, 1), 1);
    }

    private static void closeOlder() {
        SqueezedVolume v = Volumes.filled(3, 4, 5);
        v.enter(2, 6);
        v.enter(4, 1);
        Check.due("4 of the older one", Volumes.spent(v, () -> dueAnswer(v.close(0, 6), 4)), 3);
        Check.due("layout", Volumes.layout(v), "p1:3 -:4 p3:5 p2:6 t4:1 -:29");
        Check.due("no older one", Volumes.spent(v, () -> dueAnswer(v.close(1, 1), 0)), 3);
        v.enter(2, 3);
        Check.due("a shorter one", v.close(0, 2), 6 + 1);
        Check.due("layout", Volumes.layout(v), "p1:3 p2:2 -:2 p3:5 -:6 p4:1 -:29");
        v.enter(2, 2);
        v.enter(2, 6);
        Check.due("a tentative one of the name stays", v.close(1, 6), 2);
        Check.due("layout", Volumes.layout(v), "p1:3 -:2 t2:2 p3:5 p2:6 p4:1 -:29");
        Check.due("the one that was closed later is older, too", v.close(0, 1), 6 + 1);
        Check.due("layout", Volumes.layout(v), "p1:3 -:2 p2:1 -:1 p3:5 -:6 p4:1 -:29");
        Check.due("content", Volumes.content(v),
                "1( 100 101 102 ) 2( 202 ) 3( 300 301 302 303 304 ) 4( 0 ) ");
    }

    private static long dueAnswer(long answer, long due) {
        Check.due("answer", answer, due);
        return answer;
    }

    private static void closeAnswers() {
        int[][] due = {
            // the older one's length, the new one's, used, the answer
            {1, 1, 1, 1}, {5, 1, 1, 5}, {1, 5, 5, 1}, {1, 5, 1, 5}, {5, 5, 5, 5}, {24, 24, 1, 47}, {47, 1, 1, 47},
        };
        for (int[] one : due) {
            SqueezedVolume v = Volumes.files(1, one[0]);
            v.enter(1, one[1]);
            int before = v.free(false);
            Check.due("close", v.close(0, one[2]), one[3]);
            Check.due("more are empty", v.free(false) - before, one[3]);
            Check.due("all but the used ones are", v.free(false), 48 - one[2]);
        }
    }

    private static void closeSeventeen() {
        SqueezedVolume v = Volumes.files(14, 3);
        v.enter(20, 2);
        v.enter(21, 4);
        Check.due("entries", v.entries(), 16);
        Volumes.refused("one more between", UNSUPPORTED, v, () -> v.close(0, 1));
        Volumes.refused("one more at the end", UNSUPPORTED, v, () -> v.close(1, 3));
        Check.due("no more", v.close(0, 2), 0);
        Check.due("no more", v.close(1, 4), 0);

        SqueezedVolume older = Volumes.files(14, 3);
        older.enter(20, 2);
        older.enter(7, 4);
        Volumes.refused("an older one and one more", UNSUPPORTED, older, () -> older.close(1, 3));
        Check.due("an older one", older.close(1, 4), 3);
        Check.due("entries", older.entries(), 16);

        SqueezedVolume apart = sixteenWithGap(8);
        Volumes.refused("an older one between files and one more", UNSUPPORTED, apart, () -> apart.close(1, 5));
        SqueezedVolume beside = sixteenWithGap(7);
        Check.due("an older one beside an empty one and one more", beside.close(1, 5), 3 + 1);
        Check.due("entries", beside.entries(), 16);
        SqueezedVolume between = sixteenWithGap(7);
        between.delete(8);
        Check.due("an older one between empty ones and one more", between.close(1, 5), 3 + 1);
        Check.due("entries", between.entries(), 15);
    }

    /** 16 entries: a tentative file of 2 and an empty one of 1 before file 7, and one of 6 with a name at the end. */
    private static SqueezedVolume sixteenWithGap(int name) {
        SqueezedVolume v = Volumes.files(14, 3);
        v.delete(6);
        v.enter(20, 2);
        v.enter(name, 6);
        Check.due("entries", v.entries(), 16);
        return v;
    }

    private static void closeCut() {
        SqueezedVolume v = Volumes.filled(3);
        v.enter(1, 5);
        v.enter(8, 2);
        v.put(0, 0, 11);
        v.cutAfter(1);
        Check.due("close", v.close(0, 2), CUT);
        Volumes.refused("the handle is gone", STATE, v, () -> v.close(0, 2));
        Check.due("mount", v.mount(), 1);
        for (int handle = 0; handle < 2; handle++) {
            int gone = handle;
            Volumes.refused("the handle is gone", NO_ELEMENT, v, () -> v.close(gone, 2));
            Volumes.refused("the handle is gone", NO_ELEMENT, v, () -> v.put(gone, 0, 2));
        }
        Check.due("no handle", v.handle(1), -1);
        Check.due("layout", Volumes.layout(v), "p1:3 -:45");
        Check.due("content", Volumes.content(v), "1( 100 101 102 ) ");
    }

    private static void purge() {
        SqueezedVolume v = Volumes.filled(4);
        v.enter(8, 2);
        v.enter(8, 42);
        for (int handle : new int[] {LEAST, -1, 2, 3, 4, 8, MOST}) {
            Volumes.refused("handle " + handle, NO_ELEMENT, v, () -> v.purge(handle));
        }
        Check.due("its length", v.purge(1), 42);
        Volumes.refused("handle 1, purged", NO_ELEMENT, v, () -> v.purge(1));
        v.enter(7, 42);
        v.close(1, 1);
        Volumes.refused("handle 1, closed", NO_ELEMENT, v, () -> v.purge(1));
        Check.due("its length", v.purge(0), 2);
        Check.due("layout", Volumes.layout(v), "p1:4 -:2 p7:1 -:41");
        SqueezedVolume all = new SqueezedVolume();
        all.enter(1, 48);
        Check.due("all", all.purge(0), 48);
        all.enter(1, 1);
        Check.due("one", all.purge(0), 1);
    }

    private static void delete() {
        SqueezedVolume v = Volumes.filled(4, 1, 41);
        v.enter(999, 2);
        v.close(0, 2);
        v.rename(3, 8);
        for (int name : new int[] {LEAST, -1, 0, 3, 998, 1000, MOST}) {
            Volumes.refused("name " + name, NO_ELEMENT, v, () -> v.delete(name));
        }
        Check.due("its length", v.delete(999), 2);
        Volumes.refused("deleted", NO_ELEMENT, v, () -> v.delete(999));
        v.enter(999, 2);
        Volumes.refused("tentative", NO_ELEMENT, v, () -> v.delete(999));
        Check.due("its length", v.delete(8), 41);
        Check.due("its length", v.delete(2), 1);
        v.enter(1, 3);
        Check.due("the permanent one of two with the name", v.delete(1), 4);
        Check.due("layout", Volumes.layout(v), "-:4 t1:3 -:39 t999:2");
        SqueezedVolume all = Volumes.files(1, 48);
        Check.due("all", all.delete(1), 48);
        Check.due("layout", Volumes.layout(all), "-:48");
    }

    private static void renameTo() {
        SqueezedVolume v = Volumes.filled(2, 3);
        for (int to : new int[] {LEAST, -1, 0, 1000, 1001, MOST}) {
            Volumes.refused("to " + to, ARGUMENT, v, () -> v.rename(2, to));
        }
        Check.due("to 999", v.rename(2, 999), 0);
        Check.due("to 3", v.rename(1, 3), 0);
        Check.due("to 1", v.rename(999, 1), 0);
        Check.due("to 998", v.rename(3, 998), 0);
        Check.due("content", Volumes.content(v), "998( 100 101 ) 1( 200 201 202 ) ");
    }

    private static void renameName() {
        SqueezedVolume v = Volumes.filled(2, 3);
        v.enter(9, 1);
        for (int name : new int[] {LEAST, -1, 0, 3, 9, 999, 1000, MOST}) {
            Volumes.refused("name " + name, NO_ELEMENT, v, () -> v.rename(name, 5));
            Volumes.refused("name " + name + ", to 1", NO_ELEMENT, v, () -> v.rename(name, 1));
        }
        Volumes.refused("9 to 9, tentative", NO_ELEMENT, v, () -> v.rename(9, 9));
        Check.due("rename", v.rename(1, 5), 0);
        Volumes.refused("renamed", NO_ELEMENT, v, () -> v.rename(1, 6));
    }

    private static void renameTaken() {
        SqueezedVolume v = Volumes.filled(2, 3);
        v.enter(9, 1);
        Volumes.refused("to 2", UNSUPPORTED, v, () -> v.rename(1, 2));
        Volumes.refused("to 1", UNSUPPORTED, v, () -> v.rename(2, 1));
        Volumes.refused("to the same", UNSUPPORTED, v, () -> v.rename(2, 2));
        Check.due("to a tentative one's", v.rename(2, 9), 0);
        Check.due("the name is free again", v.rename(1, 2), 0);
        v.delete(9);
        Check.due("so is a deleted one's", v.rename(2, 9), 0);
        Check.due("layout", Volumes.layout(v), "p9:2 -:3 t9:1 -:42");
        Check.due("the tentative one takes its place when closed", v.close(0, 1), 2);
        Check.due("layout", Volumes.layout(v), "-:5 p9:1 -:42");
    }

    private static void readBlocks() {
        SqueezedVolume v = Volumes.filled(4, 1, 43);
        for (int block : new int[] {LEAST, -1, 1, 2, 48, MOST}) {
            Volumes.refused("block " + block + " of 1", ARGUMENT, v, () -> v.read(2, block));
        }
        Check.due("the only one", v.read(2, 0), 200);
        for (int block : new int[] {LEAST, -1, 43, 44, 47, 48, MOST}) {
            Volumes.refused("block " + block + " of 43", ARGUMENT, v, () -> v.read(3, block));
        }
        Check.due("the first", v.read(3, 0), 300);
        Check.due("the last", v.read(3, 42), 342);
    }

    private static void readNames() {
        SqueezedVolume v = Volumes.filled(4, 1);
        v.enter(9, 3);
        for (int name : new int[] {LEAST, -1, 0, 3, 9, 999, 1000, MOST}) {
            Volumes.refused("name " + name, NO_ELEMENT, v, () -> v.read(name, 0));
            Volumes.refused("name " + name + ", no block", NO_ELEMENT, v, () -> v.read(name, 48));
        }
        v.put(0, 0, 900);
        v.close(0, 3);
        Check.due("closed", v.read(9, 0), 900);
        v.delete(9);
        Volumes.refused("deleted", NO_ELEMENT, v, () -> v.read(9, 0));
    }

    private static void squeezeTentative() {
        SqueezedVolume v = Volumes.without(Volumes.filled(4, 1), 1);
        for (int i = 0; i < 4; i++) {
            v.enter(9, 1);
            Volumes.refused("tentative files: " + (i + 1), STATE, v, v::squeeze);
        }
        for (int i = 0; i < 3; i++) {
            v.purge(i);
            Volumes.refused("tentative files: " + (3 - i), STATE, v, v::squeeze);
        }
        v.purge(3);
        Check.due("none", v.squeeze(), 1);
        SqueezedVolume empty = new SqueezedVolume();
        empty.enter(9, 48);
        Volumes.refused("no file could be moved", STATE, empty, empty::squeeze);
    }

    private static void squeezeAnswers() {
        for (int n = 0; n <= 1 + 3 + 2; n++) {
            SqueezedVolume v = Volumes.without(Volumes.filled(3, 3), 1);
            v.cutAfter(n);
            Check.due("with " + n + " of 6 writes", v.squeeze(), n < 6 ? CUT : 3);
            Check.due("isOn", v.isOn() ? 1 : 0, n < 6 ? 0 : 1);
        }
        Check.due("nothing to move", Volumes.files(3, 3).squeeze(), 0);
    }

    private static void mountOn() {
        SqueezedVolume v = Volumes.without(Volumes.filled(3, 3), 1);
        v.enter(9, 1);
        Volumes.refused("power never failed", STATE, v, v::mount);
        v.cutAfter(0);
        Volumes.refused("power is to fail", STATE, v, v::mount);
        Volumes.turnOff(v);
        Check.due("power is off", v.mount(), 1);
        Volumes.refused("power is on again", STATE, v, v::mount);
    }

    private static void mountFailsNoMore() {
        SqueezedVolume v = Volumes.without(Volumes.filled(3, 3), 1);
        v.cutAfter(2);
        Check.due("squeeze", v.squeeze(), CUT);
        Check.due("mount's own writes do not fail", v.mount(), 1);
        v.enter(9, 10);
        for (int i = 0; i < 100; i++) {
            Check.due("put", v.put(0, i % 10, i), 0);
        }
        Check.due("isOn", v.isOn() ? 1 : 0, 1);
        v.cutAfter(1);
        Check.due("said anew", v.put(0, 0, 0), 0);
        Check.due("said anew", v.put(0, 0, 0), CUT);
        Check.due("mount", v.mount(), 1);
    }

    private static void mountAnswers() {
        for (int count : new int[] {0, 1, 2, 15, 16}) {
            SqueezedVolume v = Volumes.files(count, 3);
            if (count == 0) {
                v.enter(9, 1);
            }
            Volumes.turnOff(v);
            Check.due("permanent files", v.mount(), count);
        }
        SqueezedVolume v = Volumes.files(2, 3);
        v.enter(1, 3);
        v.enter(9, 3);
        Volumes.turnOff(v);
        Check.due("tentative ones do not count", v.mount(), 2);
    }

    private static void cutAfterBound() {
        for (int n : new int[] {LEAST, -3, -2}) {
            SqueezedVolume v = Volumes.filled(2);
            v.enter(9, 1);
            v.cutAfter(1);
            Volumes.refused("n " + n, ARGUMENT, v, () -> Volumes.cutAfter(v, n));
            Check.due("said before", v.put(0, 0, 1), 0);
            Check.due("said before", v.put(0, 0, 1), CUT);
        }
        for (int n : new int[] {-1, 0, 1, 2, 3, MOST}) {
            SqueezedVolume v = Volumes.filled(2);
            v.enter(9, 1);
            String before = Volumes.view(v);
            v.cutAfter(n);
            Check.due("n " + n + ": nothing is written", Volumes.view(v), before);
            for (int i = 0; i < 6; i++) {
                boolean fails = n >= 0 && i >= n;
                if (i <= n || n < 0) {
                    Check.due("n " + n + ", write " + i, v.put(0, 0, 1), fails ? CUT : 0);
                    Check.due("isOn", v.isOn() ? 1 : 0, fails ? 0 : 1);
                }
            }
        }
    }

    private static void cutAfterNow() {
        SqueezedVolume v = Volumes.filled(5);
        int before = v.writes();
        Check.due("there were writes", before, 2 + 5 + 2);
        v.cutAfter(2);
        Check.due("both are from now on", v.enter(9, 1), 0);
        Check.due("isOn", v.isOn() ? 1 : 0, 1);
        Check.due("a third is not made", v.put(0, 0, 1), CUT);
        Check.due("writes", v.writes() - before, 2);
    }

    private static void cutAfterInPlace() {
        int[][] saids = {{1, 3, 3}, {3, 1, 1}, {0, 2, 2}, {2, 0, 0}, {0, -1, 9}, {-1, 1, 1}, {5, 5, 5}};
        for (int[] said : saids) {
            SqueezedVolume v = Volumes.filled(2);
            v.enter(9, 1);
            v.cutAfter(said[0]);
            v.cutAfter(said[1]);
            int made = 0;
            while (made < 9 && v.put(0, 0, made) == 0) {
                made++;
            }
            Check.due("after " + said[0] + " and " + said[1], made, said[2]);
        }
        SqueezedVolume v = Volumes.filled(2);
        v.enter(9, 1);
        v.cutAfter(2);
        v.put(0, 0, 1);
        v.cutAfter(2);
        Check.due("the first", v.put(0, 0, 1), 0);
        Check.due("the second", v.put(0, 0, 1), 0);
        Check.due("no third", v.put(0, 0, 1), CUT);
    }

    private static void entryWhat() {
        SqueezedVolume v = Volumes.filled(4);
        v.enter(9, 2);
        for (int what : new int[] {LEAST, -2, -1, 4, 5, MOST}) {
            Volumes.refused("what " + what, ARGUMENT, v, () -> v.entry(0, what));
            Volumes.refused("what " + what + ", no entry", ARGUMENT, v, () -> v.entry(3, what));
        }
        int[][] due = {{2, 0, 4, 1}, {1, 4, 2, 9}, {0, 6, 42, 0}};
        for (int k = 0; k < due.length; k++) {
            for (int what = 0; what < 4; what++) {
                Check.due("entry " + k + ", what " + what, v.entry(k, what), due[k][what]);
            }
        }
    }

    private static void entryBounds() {
        for (int count : new int[] {0, 1, 2, 15, 16}) {
            SqueezedVolume v = Volumes.files(count, 3);
            int entries = v.entries();
            for (int k : new int[] {LEAST, -1, entries, entries + 1, 16, 17, 48, MOST}) {
                for (int what = 0; what < 4; what++) {
                    int asked = what;
                    Volumes.refused("entry " + k + " of " + entries, BOUNDS, v, () -> v.entry(k, asked));
                }
            }
            Check.due("the first", v.entry(0, 1), 0);
            Check.due("the last", v.entry(entries - 1, 1) + v.entry(entries - 1, 2), 48);
        }
        SqueezedVolume v = Volumes.files(3, 3);
        Check.due("the fourth", v.entry(3, 0), 0);
        v.delete(3);
        Volumes.refused("there are fewer now", BOUNDS, v, () -> v.entry(3, 0));
    }

    private static void entryNames() {
        SqueezedVolume v = Volumes.filled(4, 2);
        v.rename(1, 999);
        v.enter(8, 3);
        Check.due("permanent", v.entry(0, 3), 999);
        Check.due("tentative", v.entry(2, 3), 8);
        Check.due("empty", v.entry(3, 3), 0);
        v.delete(999);
        Check.due("deleted", v.entry(0, 3), 0);
        v.purge(0);
        Check.due("purged", v.entry(2, 3), 0);
    }

    private static void entriesAll() {
        SqueezedVolume v = new SqueezedVolume();
        Check.due("at first", v.entries(), 1);
        for (int i = 1; i <= 15; i++) {
            Volumes.fillNothing(v, i, 3);
            Check.due("with " + i + " files", v.entries(), i + 1);
        }
        Volumes.fillNothing(v, 16, 3);
        Check.due("with 16 files", v.entries(), 16);
        Check.due("a full one", Volumes.files(1, 48).entries(), 1);
    }

    private static void freeBounds() {
        SqueezedVolume v = new SqueezedVolume();
        Check.due("longest", v.free(true), 48);
        Check.due("all", v.free(false), 48);
        v.enter(9, 47);
        Check.due("longest", v.free(true), 1);
        Check.due("all", v.free(false), 1);
        v.purge(0);
        v.enter(9, 48);
        Check.due("without any, longest", v.free(true), 0);
        Check.due("without any, all", v.free(false), 0);
        v.close(0, 48);
        Check.due("without any, longest", v.free(true), 0);
        Check.due("without any, all", v.free(false), 0);
    }

    private static void freeSums() {
        SqueezedVolume v = Volumes.without(Volumes.filled(5, 2, 9, 2, 9, 20), 1, 3, 5);
        Check.due("ready", Volumes.layout(v), "-:5 p2:2 -:9 p4:2 -:9 p6:20 -:1");
        Check.due("one of the same", v.free(true), 9);
        Check.due("all", v.free(false), 24);
        v.enter(9, 8);
        Check.due("the other one of the same", v.free(true), 9);
        v.enter(9, 9);
        Check.due("longest", v.free(true), 5);
        Check.due("all", v.free(false), 5 + 1 + 1);
        v.delete(6);
        Check.due("the last is the longest", v.free(true), 21);
        Check.due("all", v.free(false), 5 + 1 + 21);
    }

    private static void handleLeast() {
        SqueezedVolume v = Volumes.filled(2);
        Check.due("none", v.handle(9), -1);
        Check.due("permanent", v.handle(1), -1);
        v.enter(8, 3);
        v.enter(9, 2);
        v.enter(9, 1);
        v.enter(1, 4);
        Check.due("of two", v.handle(9), 1);
        Check.due("the first", v.handle(8), 0);
        Check.due("the last", v.handle(1), 3);
        v.purge(1);
        Check.due("the other", v.handle(9), 2);
        v.close(0, 3);
        Check.due("closed", v.handle(8), -1);
        v.enter(9, 30);
        Check.due("the least handle, not the lowest entry", v.handle(9), 0);
        v.purge(0);
        v.purge(2);
        for (int name : new int[] {LEAST, -1, 0, 2, 8, 9, 999, 1000, MOST}) {
            Check.due("name " + name, v.handle(name), -1);
        }
        Check.due("the last is there still", v.handle(1), 3);
    }

    private static void writesOff() {
        SqueezedVolume v = Volumes.filled(2);
        Check.due("so far", v.writes(), 2 + 2 + 2);
        v.cutAfter(1);
        Check.due("rename", v.rename(1, 5), CUT);
        Check.due("when power is off", v.writes(), 6 + 1);
        Check.due("again", v.writes(), 6 + 1);
        v.mount();
        Check.due("behind mount", v.writes(), 6 + 1);
    }

    private static void isOnEdges() {
        SqueezedVolume v = Volumes.filled(2);
        Check.due("at first", v.isOn() ? 1 : 0, 1);
        v.cutAfter(2);
        Check.due("rename", v.rename(1, 5), 0);
        Check.due("all writes were made", v.isOn() ? 1 : 0, 1);
        Check.due("one more", v.delete(5), CUT);
        Check.due("off", v.isOn() ? 1 : 0, 0);
        Check.due("off still", v.isOn() ? 1 : 0, 0);
        v.mount();
        Check.due("mounted", v.isOn() ? 1 : 0, 1);
    }
}
