import java.util.NoSuchElementException;

/** The document's "Terms", sentence by sentence: each edge on both sides. */
final class TermEdgeTests {
    private static final Class<IllegalStateException> STATE = IllegalStateException.class;
    private static final Class<IllegalArgumentException> ARGUMENT = IllegalArgumentException.class;
    private static final Class<NoSuchElementException> NO_ELEMENT = NoSuchElementException.class;
    private static final Class<UnsupportedOperationException> UNSUPPORTED = UnsupportedOperationException.class;
    private static final Class<IndexOutOfBoundsException> BOUNDS = IndexOutOfBoundsException.class;
    private static final int CUT = SqueezedVolume.CUT;

    /** The writes of a change with so many entries, as the document counts them: 1 for each started four, and 1. */
    private static final int[] CHANGE = {0, 2, 2, 2, 2, 3, 3, 3, 3, 4, 4, 4, 4, 5, 5, 5, 5};

    private interface Ready {
        SqueezedVolume volume();
    }

    private interface Act {
        long on(SqueezedVolume v);
    }

    private TermEdgeTests() {
    }

    static void runAll() {
        Check.run("terms: blocks are 0 .. 47, at first 0", TermEdgeTests::blocks);
        Check.run("terms: each block holds any int", TermEdgeTests::anyInt);
        Check.run("terms: entries follow over all blocks, without gap", TermEdgeTests::noGap);
        Check.run("terms: a length is 1 or more", TermEdgeTests::noLengthZero);
        Check.run("terms: a name is 1 .. 999", TermEdgeTests::names);
        Check.run("terms: empty neighbours become one behind purge", TermEdgeTests::neighboursPurged);
        Check.run("terms: empty neighbours become one behind delete", TermEdgeTests::neighboursDeleted);
        Check.run("terms: empty neighbours become one behind close", TermEdgeTests::neighboursClosed);
        Check.run("terms: empty neighbours become one behind squeeze", TermEdgeTests::neighboursSqueezed);
        Check.run("terms: empty neighbours become one behind mount", TermEdgeTests::neighboursMounted);
        Check.run("terms: entries that became one are gone", TermEdgeTests::goneEntries);
        Check.run("terms: at most 16 entries", TermEdgeTests::sixteenEntries);
        Check.run("terms: at most 4 tentative files, handles 0 .. 3", TermEdgeTests::fourTentative);
        Check.run("terms: no two permanent files have the same name", TermEdgeTests::oneOfAName);
        Check.run("terms: a block that gets an int is one write", TermEdgeTests::putIsOneWrite);
        Check.run("terms: a change's writes, rename", TermEdgeTests::renameWrites);
        Check.run("terms: a change's writes, enter and purge", TermEdgeTests::enterWrites);
        Check.run("terms: a change's writes, close", TermEdgeTests::closeWrites);
        Check.run("terms: a change's writes, delete", TermEdgeTests::deleteWrites);
        Check.run("terms: a change's writes, squeeze", TermEdgeTests::squeezeWrites);
        Check.run("terms: a change's writes, mount", TermEdgeTests::mountWrites);
        Check.run("terms: a change holds with its last write, not before", TermEdgeTests::holdsWithLast);
        Check.run("terms: refused calls write nothing", TermEdgeTests::refusedWriteNothing);
        Check.run("terms: calls that only tell write nothing", TermEdgeTests::tellingWritesNothing);
        Check.run("terms: power is on at first", TermEdgeTests::onAtFirst);
        Check.run("terms: power fails when one more is to be made", TermEdgeTests::failsAtOneMore);
        Check.run("terms: what was written stays", TermEdgeTests::writtenStays);
        Check.run("terms: squeezing, as long as a file is behind an empty entry", TermEdgeTests::squeezesAsLong);
        Check.run("terms: squeezing, the lowest file first", TermEdgeTests::squeezesLowest);
        Check.run("terms: squeezing, groups of the lesser of 8 and s", TermEdgeTests::squeezesInGroups);
        Check.run("terms: squeezing, from the lowest block on", TermEdgeTests::squeezesFromLowest);
        Check.run("terms: squeezing, the file lies before the empty entry", TermEdgeTests::squeezesBefore);
        Check.run("terms: mounting, behind the first ledger write", TermEdgeTests::mountsBehindLedger);
        Check.run("terms: mounting, the group of the ledger again", TermEdgeTests::mountsGroupAgain);
        Check.run("terms: mounting, all that is left of a squeeze", TermEdgeTests::mountsRest);
        Check.run("terms: mounting, a squeeze that did not begin", TermEdgeTests::mountsNotBegun);
        Check.run("terms: mounting, a squeeze that ended", TermEdgeTests::mountsEnded);
        Check.run("terms: mounting, tentative files by one change", TermEdgeTests::mountsTentative);
        Check.run("terms: power is off, first of all", TermEdgeTests::offFirst);
        Check.run("terms: refused calls without power leave what mount needs", TermEdgeTests::offLeaves);
        Check.run("terms: of several exceptions the first", TermEdgeTests::exceptionOrder);
        Check.run("terms: a call that answers CUT has made power fail", TermEdgeTests::cutIsOff);
    }

    private static void blocks() {
        SqueezedVolume v = new SqueezedVolume();
        Check.due("a file of all blocks", v.enter(1, 48), 0);
        Volumes.refused("block -1", ARGUMENT, v, () -> v.put(0, -1, 5));
        Volumes.refused("block 48", ARGUMENT, v, () -> v.put(0, 48, 5));
        Check.due("block 0", v.put(0, 0, 5), 0);
        Check.due("block 47", v.put(0, 47, 6), 0);
        v.close(0, 48);
        Check.due("block 0", v.read(1, 0), 5);
        for (int i = 1; i < 47; i++) {
            Check.due("block " + i + " at first", v.read(1, i), 0);
        }
        Check.due("block 47", v.read(1, 47), 6);
        SqueezedVolume other = new SqueezedVolume();
        Volumes.fillNothing(other, 1, 48);
        Check.due("block 0 at first", other.read(1, 0), 0);
        Check.due("block 47 at first", other.read(1, 47), 0);
    }

    private static void anyInt() {
        SqueezedVolume v = new SqueezedVolume();
        int[] ints = {Integer.MIN_VALUE, Integer.MAX_VALUE, 0, -1, 1};
        v.enter(1, 1);
        v.enter(2, 5);
        for (int i = 0; i < ints.length; i++) {
            Check.due("put", v.put(1, i, ints[i]), 0);
        }
        v.purge(0);
        v.close(1, 5);
        for (int i = 0; i < ints.length; i++) {
            Check.due("read", v.read(2, i), ints[i]);
        }
        v.squeeze();
        for (int i = 0; i < ints.length; i++) {
            Check.due("read when moved", v.read(2, i), ints[i]);
        }
    }

    private static void noGap() {
        SqueezedVolume v = new SqueezedVolume();
        dueWhole(v);
        for (int i = 1; i <= 5; i++) {
            Volumes.fill(v, i, i);
            dueWhole(v);
        }
        v.delete(2);
        dueWhole(v);
        v.delete(4);
        dueWhole(v);
        v.enter(6, 3);
        dueWhole(v);
        v.close(0, 1);
        dueWhole(v);
        v.squeeze();
        dueWhole(v);
        v.enter(7, 0);
        Volumes.turnOff(v);
        v.mount();
        dueWhole(v);
    }

    private static void dueWhole(SqueezedVolume v) {
        int begin = 0;
        for (int k = 0; k < v.entries(); k++) {
            Check.due("entry " + k + " begins at", v.entry(k, 1), begin);
            begin += v.entry(k, 2);
        }
        Check.due("all blocks", begin, 48);
    }

    private static void noLengthZero() {
        SqueezedVolume v = Volumes.without(Volumes.filled(3, 1), 1);
        v.enter(5, 2);
        Check.due("one block is left", Volumes.layout(v), "t5:2 -:1 p2:1 -:44");
        v.purge(0);
        v.enter(5, 3);
        Check.due("none is left", Volumes.layout(v), "t5:3 p2:1 -:44");
        v.close(0, 2);
        Check.due("closed with one less", Volumes.layout(v), "p5:2 -:1 p2:1 -:44");
        v.delete(5);
        v.enter(5, 3);
        v.close(0, 3);
        Check.due("closed with all", Volumes.layout(v), "p5:3 p2:1 -:44");
        v.enter(6, 43);
        Check.due("one block at the end", Volumes.layout(v), "p5:3 p2:1 t6:43 -:1");
        v.purge(0);
        v.enter(6, 44);
        Check.due("none at the end", Volumes.layout(v), "p5:3 p2:1 t6:44");
    }

    private static void names() {
        SqueezedVolume v = new SqueezedVolume();
        Volumes.refused("enter 0", ARGUMENT, v, () -> v.enter(0, 1));
        Volumes.refused("enter 1000", ARGUMENT, v, () -> v.enter(1000, 1));
        Check.due("enter 1", v.enter(1, 1), 0);
        Check.due("enter 999", v.enter(999, 1), 1);
        v.close(0, 1);
        v.close(1, 1);
        Volumes.refused("rename to 0", ARGUMENT, v, () -> v.rename(1, 0));
        Volumes.refused("rename to 1000", ARGUMENT, v, () -> v.rename(1, 1000));
        Check.due("rename to 2", v.rename(1, 2), 0);
        Check.due("rename to 1", v.rename(999, 1), 0);
        Check.due("rename to 999", v.rename(2, 999), 0);
        Check.due("layout", Volumes.layout(v), "p999:1 p1:1 -:46");
    }

    private static void neighboursPurged() {
        SqueezedVolume v = Volumes.filled(1);
        v.enter(5, 2);
        v.enter(6, 3);
        v.enter(7, 4);
        v.enter(8, 38);
        Check.due("layout", Volumes.layout(v), "p1:1 t5:2 t6:3 t7:4 t8:38");
        v.purge(1);
        Check.due("between files", Volumes.layout(v), "p1:1 t5:2 -:3 t7:4 t8:38");
        v.purge(2);
        Check.due("behind an empty one", Volumes.layout(v), "p1:1 t5:2 -:7 t8:38");
        v.purge(0);
        Check.due("before an empty one", Volumes.layout(v), "p1:1 -:9 t8:38");
        v.enter(5, 2);
        v.enter(6, 3);
        v.purge(0);
        Check.due("two with a file between stay two", Volumes.layout(v), "p1:1 -:2 t6:3 -:4 t8:38");
        v.purge(1);
        Check.due("between empty ones", Volumes.layout(v), "p1:1 -:9 t8:38");
    }

    private static void neighboursDeleted() {
        SqueezedVolume v = Volumes.filled(1, 2, 3, 4, 38);
        v.delete(3);
        Check.due("between files", Volumes.layout(v), "p1:1 p2:2 -:3 p4:4 p5:38");
        v.delete(4);
        Check.due("behind an empty one", Volumes.layout(v), "p1:1 p2:2 -:7 p5:38");
        v.delete(2);
        Check.due("before an empty one", Volumes.layout(v), "p1:1 -:9 p5:38");
        Volumes.fill(v, 2, 2);
        Volumes.fill(v, 3, 3);
        v.delete(2);
        Check.due("two with a file between stay two", Volumes.layout(v), "p1:1 -:2 p3:3 -:4 p5:38");
        v.delete(3);
        Check.due("between empty ones", Volumes.layout(v), "p1:1 -:9 p5:38");
        v.delete(5);
        v.delete(1);
        Check.due("all", Volumes.layout(v), "-:48");
    }

    private static void neighboursClosed() {
        SqueezedVolume v = Volumes.filled(3, 4);
        v.enter(5, 10);
        v.enter(6, 6);
        v.close(0, 8);
        Check.due("the rest before a file", Volumes.layout(v), "p1:3 p2:4 p5:8 -:2 t6:6 -:25");
        v.close(1, 5);
        Check.due("the rest before an empty one", Volumes.layout(v), "p1:3 p2:4 p5:8 -:2 p6:5 -:26");

        v = Volumes.filled(3, 4);
        v.enter(2, 41);
        Check.due("the older one before it", v.close(0, 41), 4);
        Check.due("layout", Volumes.layout(v), "p1:3 -:4 p2:41");

        v = Volumes.without(Volumes.filled(3, 4, 5, 36), 1, 3);
        v.enter(2, 5);
        Check.due("layout", Volumes.layout(v), "-:3 p2:4 t2:5 p4:36");
        Check.due("the older one behind an empty one", v.close(0, 4), 4 + 1);
        Check.due("layout", Volumes.layout(v), "-:7 p2:4 -:1 p4:36");

        v = Volumes.without(Volumes.filled(5, 4, 5, 34), 1, 3);
        v.enter(2, 5);
        Check.due("layout", Volumes.layout(v), "t2:5 p2:4 -:5 p4:34");
        Check.due("the rest, the older one and an empty one", v.close(0, 2), 3 + 4);
        Check.due("layout", Volumes.layout(v), "p2:2 -:12 p4:34");
    }

    private static void neighboursSqueezed() {
        SqueezedVolume v = Volumes.without(Volumes.filled(2, 3, 4, 5, 34), 1, 3);
        Check.due("layout", Volumes.layout(v), "-:2 p2:3 -:4 p4:5 p5:34");
        v.squeeze();
        Check.due("all empty blocks are one entry", Volumes.layout(v), "p2:3 p4:5 p5:34 -:6");
        Volumes.fill(v, 1, 1);
        v.delete(2);
        v.squeeze();
        Check.due("one with the empty one at the end", Volumes.layout(v), "p4:5 p5:34 p1:1 -:8");
    }

    private static void neighboursMounted() {
        SqueezedVolume v = Volumes.without(Volumes.filled(2, 3, 4), 1);
        v.enter(5, 2);
        v.enter(6, 1);
        v.enter(7, 38);
        Check.due("layout", Volumes.layout(v), "t5:2 p2:3 p3:4 t6:1 t7:38");
        Volumes.turnOff(v);
        v.mount();
        Check.due("one behind the other", Volumes.layout(v), "-:2 p2:3 p3:4 -:39");
        v.enter(5, 1);
        v.enter(6, 5);
        Check.due("layout", Volumes.layout(v), "t5:1 -:1 p2:3 p3:4 t6:5 -:34");
        Volumes.turnOff(v);
        v.mount();
        Check.due("with the empty ones behind them", Volumes.layout(v), "-:2 p2:3 p3:4 -:39");
    }

    private static void goneEntries() {
        SqueezedVolume v = Volumes.without(Volumes.filled(3, 4, 5, 36), 2);
        v.delete(3);
        Check.due("layout", Volumes.layout(v), "p1:3 -:9 p4:36");
        Check.due("rename the last one", v.rename(4, 9), 0);
        Volumes.refused("its name is gone", NO_ELEMENT, v, () -> v.read(4, 0));
        Check.due("its name is free", v.rename(1, 4), 0);

        SqueezedVolume purged = Volumes.filled(3);
        purged.enter(5, 2);
        purged.enter(6, 43);
        purged.purge(0);
        purged.purge(1);
        Check.due("layout", Volumes.layout(purged), "p1:3 -:45");
        Check.due("handle", purged.handle(6), -1);
        Check.due("no tentative file refuses it", purged.squeeze(), 0);
        Check.due("free", purged.free(false), 45);
        Check.due("enter", purged.enter(7, 0), 0);
        Check.due("half of 45, for there is no second one", Volumes.layout(purged), "p1:3 t7:22 -:23");
        Volumes.turnOff(purged);
        Check.due("permanent files", purged.mount(), 1);

        SqueezedVolume deleted = Volumes.without(Volumes.filled(3, 4, 41), 2, 3);
        Check.due("layout", Volumes.layout(deleted), "p1:3 -:45");
        Volumes.turnOff(deleted);
        Check.due("permanent files", deleted.mount(), 1);
        Volumes.refused("the last one", NO_ELEMENT, deleted, () -> deleted.read(3, 0));
        Volumes.refused("more than there are", UNSUPPORTED, deleted, () -> deleted.enter(9, 46));
    }

    private static void sixteenEntries() {
        SqueezedVolume v = Volumes.files(14, 2);
        Check.due("entries", v.entries(), 15);
        Check.due("enter, the 16th", v.enter(20, 2), 0);
        Check.due("entries", v.entries(), 16);
        Volumes.refused("enter, a 17th", UNSUPPORTED, v, () -> v.enter(21, 2));
        v.purge(0);
        v.delete(14);
        Check.due("entries", v.entries(), 14);
        v.enter(20, 2);
        v.enter(21, 20);
        Check.due("entries", v.entries(), 15);
        Check.due("close, the 16th", v.close(0, 1), 1);
        Check.due("entries", v.entries(), 16);
        Volumes.refused("close, a 17th", UNSUPPORTED, v, () -> v.close(1, 19));
        Check.due("close, as many", v.close(1, 20), 0);
    }

    private static void fourTentative() {
        SqueezedVolume v = new SqueezedVolume();
        for (int i = 0; i < 4; i++) {
            int handle = i;
            Volumes.refused("not yet there", NO_ELEMENT, v, () -> v.put(handle, 0, 1));
            Check.due("handle", v.enter(5 + i, 2), i);
            Check.due("put", v.put(i, 0, 1), 0);
        }
        Volumes.refused("a fifth", STATE, v, () -> v.enter(9, 2));
        Volumes.refused("handle -1", NO_ELEMENT, v, () -> v.put(-1, 0, 1));
        Volumes.refused("handle 4", NO_ELEMENT, v, () -> v.put(4, 0, 1));
        v.purge(3);
        Check.due("a fourth again", v.enter(9, 2), 3);
        v.close(0, 1);
        Check.due("a fourth again", v.enter(10, 2), 0);
        Volumes.refused("a fifth", STATE, v, () -> v.enter(11, 2));
    }

    private static void oneOfAName() {
        SqueezedVolume v = Volumes.filled(3, 4);
        Volumes.refused("rename to another's name", UNSUPPORTED, v, () -> v.rename(1, 2));
        Check.due("a tentative one may have it", v.enter(2, 5), 0);
        Check.due("several may have it", v.enter(2, 6), 1);
        v.close(1, 6);
        Check.due("the older one is gone", Volumes.layout(v), "p1:3 -:4 t2:5 p2:6 -:30");
        v.close(0, 5);
        Check.due("the older one is gone", Volumes.layout(v), "p1:3 -:4 p2:5 -:36");
    }

    private static void putIsOneWrite() {
        SqueezedVolume v = new SqueezedVolume();
        v.enter(1, 3);
        Check.due("put", Volumes.spent(v, () -> v.put(0, 0, 7)), 1);
        Check.due("the same int", Volumes.spent(v, () -> v.put(0, 0, 7)), 1);
        Check.due("the last block", Volumes.spent(v, () -> v.put(0, 2, 0)), 1);
        v.cutAfter(0);
        Check.due("one that is not made", Volumes.spent(v, () -> v.put(0, 0, 8)), 0);
    }

    private static void renameWrites() {
        for (int entries = 2; entries <= 16; entries++) {
            SqueezedVolume v = Volumes.files(entries - 1, 3);
            Check.due("rename with " + entries, Volumes.spent(v, () -> v.rename(1, 500)), CHANGE[entries]);
        }
    }

    private static void enterWrites() {
        for (int entries = 1; entries <= 15; entries++) {
            SqueezedVolume v = Volumes.files(entries - 1, 3);
            int rest = v.free(true);
            String to = " from " + entries;
            Check.due("enter, one more" + to, Volumes.spent(v, () -> v.enter(500, rest - 1)), CHANGE[entries + 1]);
            Check.due("purge, one less" + to, Volumes.spent(v, () -> v.purge(0)), CHANGE[entries]);
            Check.due("enter, all" + to, Volumes.spent(v, () -> v.enter(500, rest)), CHANGE[entries]);
            Check.due("purge, all" + to, Volumes.spent(v, () -> v.purge(0)), CHANGE[entries]);
        }
        SqueezedVolume v = Volumes.files(15, 3);
        Check.due("16 entries", Volumes.spent(v, () -> v.enter(500, 3)), 5);
        Check.due("16 entries", Volumes.spent(v, () -> v.purge(0)), 5);
    }

    private static void closeWrites() {
        for (int entries = 2; entries <= 15; entries++) {
            SqueezedVolume v = Volumes.files(entries - 2, 3);
            int rest = v.free(true);
            String to = " with " + entries;
            v.enter(500, rest - 1);
            Check.due("close, all" + to, Volumes.spent(v, () -> v.close(0, rest - 1)), CHANGE[entries]);
            v.delete(500);
            v.enter(500, rest);
            Check.due("close, one less" + to, Volumes.spent(v, () -> v.close(0, rest - 1)), CHANGE[entries]);
            v.enter(500, 1);
            Check.due("close, an older one" + to, Volumes.spent(v, () -> v.close(0, 1)), CHANGE[entries]);
        }
    }

    private static void deleteWrites() {
        for (int entries = 3; entries <= 16; entries++) {
            SqueezedVolume v = Volumes.files(entries - 1, 3);
            int last = entries - 1;
            Check.due("delete, as many", Volumes.spent(v, () -> v.delete(1)), CHANGE[entries]);
            Check.due("delete, one less", Volumes.spent(v, () -> v.delete(last)), CHANGE[entries - 1]);
        }
        SqueezedVolume v = Volumes.without(Volumes.filled(1, 1, 1, 1, 1, 1), 1, 3);
        Check.due("layout", Volumes.layout(v), "-:1 p2:1 -:1 p4:1 p5:1 p6:1 -:42");
        Check.due("delete, two less", Volumes.spent(v, () -> v.delete(2)), CHANGE[5]);
        Check.due("delete, as many", Volumes.spent(v, () -> v.delete(5)), CHANGE[5]);
        Check.due("delete, two less", Volumes.spent(v, () -> v.delete(4)), CHANGE[3]);
    }

    private static void squeezeWrites() {
        for (int entries = 2; entries <= 16; entries++) {
            SqueezedVolume v = Volumes.files(entries - 1, 1);
            int rest = 48 - (entries - 1);
            v.enter(500, rest);
            v.close(0, rest);
            v.delete(entries - 1);
            Check.due("entries", v.entries(), entries);
            // By one block: a write of the ledger for each block.
            Check.due("squeeze with " + entries, Volumes.spent(v, v::squeeze), 2 * rest + CHANGE[entries]);
        }
        SqueezedVolume v = Volumes.files(15, 3);
        v.delete(14);
        Check.due("entries", v.entries(), 16);
        Check.due("squeeze from 16 to 15", Volumes.spent(v, v::squeeze), 1 + 3 + CHANGE[15]);
        v.delete(2);
        v.delete(12);
        Check.due("entries", v.entries(), 15);
        // 11 moves; the ninth makes both empty ones one, and the last one takes them to the end.
        Check.due("squeeze from 15 to 13", Volumes.spent(v, v::squeeze),
                11 * (1 + 3) + 8 * CHANGE[15] + 2 * CHANGE[14] + CHANGE[13]);
    }

    private static void mountWrites() {
        for (int entries = 2; entries <= 15; entries++) {
            SqueezedVolume v = Volumes.files(entries - 1, 3);
            v.enter(500, 2);
            Volumes.turnOff(v);
            Check.due("mount, one less", Volumes.spent(v, v::mount), CHANGE[entries]);
            v.enter(500, v.free(true));
            Volumes.turnOff(v);
            Check.due("mount, as many", Volumes.spent(v, v::mount), CHANGE[entries]);
            Volumes.turnOff(v);
            Check.due("mount, no tentative file", Volumes.spent(v, v::mount), 0);
        }
    }

    private static void holdsWithLast() {
        dueHolds("enter", SqueezedVolume::new, v -> v.enter(5, 4), 0, "-:48", "t5:4 -:44");
        Ready opened = () -> {
            SqueezedVolume v = Volumes.filled(3, 1, 1);
            v.enter(1, 4);
            return v;
        };
        // What mount writes shows that the tentative file was there still.
        dueHolds("purge", opened, v -> v.purge(0), 2, "p1:3 p2:1 p3:1 -:43", "p1:3 p2:1 p3:1 -:43");
        dueHolds("close", opened, v -> v.close(0, 2), 2, "p1:3 p2:1 p3:1 -:43", "-:3 p2:1 p3:1 p1:2 -:41");
        Ready five = () -> Volumes.filled(1, 2, 3, 4);
        dueHolds("delete", five, v -> v.delete(2), 0, "p1:1 p2:2 p3:3 p4:4 -:38", "p1:1 -:2 p3:3 p4:4 -:38");
        dueHolds("rename", five, v -> v.rename(2, 9), 0, "p1:1 p2:2 p3:3 p4:4 -:38", "p1:1 p9:2 p3:3 p4:4 -:38");
        Ready full = () -> Volumes.files(16, 3);
        dueHolds("of 16 entries", full, v -> v.rename(16, 17), 0,
                Volumes.layout(full.volume()), Volumes.layout(full.volume()).replace("p16", "p17"));
    }

    private static void dueHolds(String what, Ready ready, Act act, int mounting, String cut, String done) {
        SqueezedVolume whole = ready.volume();
        int all = Volumes.spent(whole, () -> act.on(whole));
        Check.due(what + " done", Volumes.layout(whole), done);
        for (int n = 0; n <= all; n++) {
            SqueezedVolume v = ready.volume();
            String before = Volumes.allInts(ready.volume());
            int writes = v.writes();
            v.cutAfter(n);
            boolean answeredCut = act.on(v) == CUT;
            Check.due(what + " cut behind " + n, answeredCut ? 1 : 0, n < all ? 1 : 0);
            Check.due("isOn", v.isOn() ? 1 : 0, n < all ? 0 : 1);
            Check.due("writes", v.writes() - writes, n);
            if (n < all) {
                Check.due("writes of mount", Volumes.spent(v, v::mount), mounting);
            }
            Check.due(what + " behind " + n, Volumes.layout(v), n < all ? cut : done);
            Check.due("the blocks", Volumes.allInts(v), before);
        }
    }

    /** Permanent, tentative and empty entries; power is said to fail after 3 writes. */
    private static SqueezedVolume busy() {
        SqueezedVolume v = Volumes.without(Volumes.filled(3, 2, 4), 2);
        v.enter(7, 2);
        v.enter(8, 6);
        v.put(0, 1, 71);
        v.put(1, 5, 85);
        v.cutAfter(3);
        return v;
    }

    private static void refusedWriteNothing() {
        SqueezedVolume v = busy();
        SqueezedVolume same = busy();
        Volumes.refused("enter", ARGUMENT, v, () -> v.enter(0, 1));
        Volumes.refused("enter", ARGUMENT, v, () -> v.enter(1, 49));
        Volumes.refused("enter", UNSUPPORTED, v, () -> v.enter(1, 48));
        Volumes.refused("put", NO_ELEMENT, v, () -> v.put(2, 0, 9));
        Volumes.refused("put", ARGUMENT, v, () -> v.put(1, 6, 9));
        Volumes.refused("put", ARGUMENT, v, () -> v.put(1, -1, 9));
        Volumes.refused("close", NO_ELEMENT, v, () -> v.close(2, 1));
        Volumes.refused("close", ARGUMENT, v, () -> v.close(1, 7));
        Volumes.refused("close", ARGUMENT, v, () -> v.close(1, 0));
        Volumes.refused("purge", NO_ELEMENT, v, () -> v.purge(2));
        Volumes.refused("delete", NO_ELEMENT, v, () -> v.delete(7));
        Volumes.refused("rename", ARGUMENT, v, () -> v.rename(1, 1000));
        Volumes.refused("rename", NO_ELEMENT, v, () -> v.rename(7, 9));
        Volumes.refused("rename", UNSUPPORTED, v, () -> v.rename(1, 3));
        Volumes.refused("rename", UNSUPPORTED, v, () -> v.rename(1, 1));
        Volumes.refused("read", NO_ELEMENT, v, () -> v.read(7, 0));
        Volumes.refused("read", ARGUMENT, v, () -> v.read(1, 3));
        Volumes.refused("squeeze", STATE, v, v::squeeze);
        Volumes.refused("mount", STATE, v, v::mount);
        Volumes.refused("cutAfter", ARGUMENT, v, () -> Volumes.cutAfter(v, -2));
        Volumes.refused("entry", ARGUMENT, v, () -> v.entry(0, 4));
        Volumes.refused("entry", BOUNDS, v, () -> v.entry(5, 0));
        dueSame(v, same);
    }

    /** Power fails at the same write in both, and all blocks hold the same behind it. */
    private static void dueSame(SqueezedVolume v, SqueezedVolume same) {
        Check.due("all that can be seen", Volumes.view(v), Volumes.view(same));
        for (int i = 0; i < 4; i++) {
            Check.due("put", v.put(1, 0, i), same.put(1, 0, i));
        }
        Check.due("isOn", v.isOn() ? 1 : 0, 0);
        Check.due("mount", v.mount(), same.mount());
        Check.due("all that can be seen", Volumes.view(v), Volumes.view(same));
        Check.due("all ints", Volumes.allInts(v), Volumes.allInts(same));
    }

    private static void tellingWritesNothing() {
        SqueezedVolume v = busy();
        v.cutAfter(0);
        Check.due("read", v.read(1, 0), 100);
        Check.due("entry", v.entry(0, 0), 2);
        Check.due("entries", v.entries(), 5);
        Check.due("free", v.free(true), 33);
        Check.due("free", v.free(false), 33);
        Check.due("handle", v.handle(8), 1);
        Check.due("isOn", v.isOn() ? 1 : 0, 1);
        Check.due("writes", Volumes.spent(v, () -> v.writes() + v.read(1, 0) + v.entry(0, 3)), 0);
        v.cutAfter(3);
        dueSame(v, busy());
    }

    private static void onAtFirst() {
        SqueezedVolume v = new SqueezedVolume();
        Check.due("isOn", v.isOn() ? 1 : 0, 1);
        Volumes.refused("mount", STATE, v, v::mount);
        Check.due("entries", v.entries(), 1);
    }

    private static void failsAtOneMore() {
        for (int n = 0; n < 5; n++) {
            SqueezedVolume v = Volumes.filled(2);
            v.enter(5, 3);
            v.cutAfter(n);
            for (int i = 0; i < n; i++) {
                Check.due("put " + i + " of " + n, v.put(0, 0, i), 0);
                Check.due("isOn", v.isOn() ? 1 : 0, 1);
            }
            Volumes.refused("a refused call", ARGUMENT, v, () -> v.put(0, 3, 0));
            Check.due("a call that writes nothing", v.read(1, 0), 100);
            Check.due("isOn behind all " + n, v.isOn() ? 1 : 0, 1);
            Check.due("one more", Volumes.spent(v, () -> dueCut(v.put(0, 0, 99))), 0);
            Check.due("isOn", v.isOn() ? 1 : 0, 0);
        }
        SqueezedVolume v = Volumes.filled(2);
        v.cutAfter(0);
        Check.due("a squeeze without a move", v.squeeze(), 0);
        Check.due("isOn", v.isOn() ? 1 : 0, 1);
    }

    private static long dueCut(long answer) {
        Check.due("power fails", answer, CUT);
        return answer;
    }

    private static void writtenStays() {
        SqueezedVolume v = new SqueezedVolume();
        v.enter(5, 3);
        v.cutAfter(2);
        v.put(0, 0, 11);
        v.put(0, 1, 12);
        dueCut(v.put(0, 2, 13));
        Check.due("writes", v.writes(), 2 + 2);
        v.mount();
        Volumes.fillNothing(v, 6, 3);
        Check.due("written and lost", Volumes.content(v), "6( 11 12 0 ) ");
        v.cutAfter(1);
        dueCut(v.delete(6));
        Check.due("writes of a change that is cut", v.writes(), 4 + 2 + 2 + 2 + 1);
    }

    private static void squeezesAsLong() {
        dueSqueeze("one empty entry alone", new SqueezedVolume(), 0, "-:48");
        dueSqueeze("no empty entry", Volumes.files(1, 48), 0, "p1:48");
        dueSqueeze("an empty entry behind all", Volumes.files(2, 3), 0, "p1:3 p2:3 -:42");
        dueSqueeze("a file at the end", Volumes.without(Volumes.files(2, 24), 1), 24, "p2:24 -:24");
        dueSqueeze("one empty block", Volumes.without(Volumes.filled(1, 47), 1), 47, "p2:47 -:1");
        dueSqueeze("one block", Volumes.without(Volumes.filled(47, 1), 1), 1, "p2:1 -:47");
        dueSqueeze("several files behind it", Volumes.without(Volumes.files(4, 12), 1), 36, "p2:12 p3:12 p4:12 -:12");
        dueSqueeze("files before it stay", Volumes.without(Volumes.files(4, 12), 3), 12, "p1:12 p2:12 p4:12 -:12");
        dueSqueeze("every other", Volumes.without(Volumes.files(16, 3), 1, 3, 5, 7, 9, 11, 13, 15), 24,
                "p2:3 p4:3 p6:3 p8:3 p10:3 p12:3 p14:3 p16:3 -:24");
    }

    private static void dueSqueeze(String what, SqueezedVolume v, int copied, String layout) {
        String content = Volumes.content(v);
        Check.due(what, v.squeeze(), copied);
        Check.due(what, Volumes.layout(v), layout);
        Check.due(what, Volumes.content(v), content);
        String before = Volumes.view(v);
        Check.due(what + ", again", v.squeeze(), 0);
        Check.due(what + ", again", Volumes.view(v), before);
    }

    private static void squeezesLowest() {
        SqueezedVolume v = Volumes.without(Volumes.filled(1, 8, 7, 8), 1, 3);
        Check.due("layout", Volumes.layout(v), "-:1 p2:8 -:7 p4:8 -:24");
        // The other way round the second file would be moved twice.
        Check.due("squeeze", v.squeeze(), 16);
        Check.due("writes", Volumes.spent(v, v::squeeze), 0);
        SqueezedVolume again = Volumes.without(Volumes.filled(1, 8, 7, 8), 1, 3);
        Check.due("writes", Volumes.spent(again, again::squeeze), (8 + 8 + 2) + (1 + 8 + 2));
    }

    private static void squeezesInGroups() {
        int[][] cases = {
            // s, the file's length, how many groups
            {1, 1, 1}, {1, 2, 2}, {1, 9, 9},
            {2, 1, 1}, {2, 2, 1}, {2, 3, 2},
            {7, 6, 1}, {7, 7, 1}, {7, 8, 2}, {7, 14, 2}, {7, 15, 3},
            {8, 7, 1}, {8, 8, 1}, {8, 9, 2}, {8, 16, 2}, {8, 17, 3},
            {9, 8, 1}, {9, 9, 2}, {9, 16, 2}, {9, 17, 3}, {9, 18, 3},
            {39, 8, 1}, {38, 9, 2}, {47, 1, 1}, {1, 46, 46}, {16, 30, 4},
        };
        for (int[] one : cases) {
            SqueezedVolume v = Volumes.without(Volumes.filled(one[0], one[1]), 1);
            String content = Volumes.content(v);
            Check.due(one[1] + " by " + one[0], Volumes.spent(v, v::squeeze), one[2] + one[1] + 2);
            Check.due("content", Volumes.content(v), content);
        }
    }

    private static void squeezesFromLowest() {
        SqueezedVolume v = Volumes.without(Volumes.filled(2, 5), 1);
        v.squeeze();
        Check.due("the blocks left keep what they have", Volumes.allInts(v),
                "999( 200 201 202 203 204 203 204" + " 0".repeat(41) + " ) ");
        SqueezedVolume far = Volumes.without(Volumes.filled(6, 3), 1);
        far.squeeze();
        Check.due("blocks between keep what they have", Volumes.allInts(far),
                "999( 200 201 202 103 104 105 200 201 202" + " 0".repeat(39) + " ) ");
    }

    private static void squeezesBefore() {
        SqueezedVolume v = Volumes.without(Volumes.filled(2, 3, 4), 1);
        // 2 groups and 3 blocks, a change of 2 writes: then the second move's first write fails.
        v.cutAfter(2 + 3 + 2);
        dueCut(v.squeeze());
        Check.due("the second move", Volumes.spent(v, v::mount), 2 + 4 + 2);
        Check.due("layout", Volumes.layout(v), "p2:3 p3:4 -:41");
        SqueezedVolume end = Volumes.without(Volumes.filled(40, 8), 1);
        end.squeeze();
        Check.due("the empty entry lies behind the file", Volumes.layout(end), "p2:8 -:40");
    }

    /** By 3, a file of 7: its writes are L 3 L 3 L 1 and a change of 2. */
    private static SqueezedVolume oneMove() {
        return Volumes.without(Volumes.filled(3, 7), 1);
    }

    private static void mountsBehindLedger() {
        SqueezedVolume before = oneMove();
        before.cutAfter(0);
        dueCut(before.squeeze());
        Check.due("before the first ledger write", Volumes.spent(before, before::mount), 0);
        Check.due("layout", Volumes.layout(before), "-:3 p2:7 -:38");
        SqueezedVolume behind = oneMove();
        behind.cutAfter(1);
        dueCut(behind.squeeze());
        Check.due("behind it", Volumes.spent(behind, behind::mount), 3 + 1 + 3 + 1 + 1 + 2);
        Check.due("layout", Volumes.layout(behind), "p2:7 -:41");
        SqueezedVolume last = oneMove();
        last.cutAfter(11);
        dueCut(last.squeeze());
        Check.due("before the change holds", Volumes.spent(last, last::mount), 1 + 2);
        Check.due("layout", Volumes.layout(last), "p2:7 -:41");
        SqueezedVolume done = oneMove();
        done.cutAfter(12);
        Check.due("the change holds", done.squeeze(), 7);
        Volumes.turnOff(done);
        Check.due("nothing is left", Volumes.spent(done, done::mount), 0);
    }

    private static void mountsGroupAgain() {
        // Cut behind n writes; what mount then writes. The ledger is never written again for its group.
        int[] due = {0, 11, 11, 11, 11, 7, 7, 7, 7, 3, 3, 3};
        for (int n = 1; n < due.length; n++) {
            SqueezedVolume v = oneMove();
            v.cutAfter(n);
            dueCut(v.squeeze());
            Check.due("mount behind " + n, Volumes.spent(v, v::mount), due[n]);
            Check.due("content", Volumes.content(v), "2( 200 201 202 203 204 205 206 ) ");
            Check.due("layout", Volumes.layout(v), "p2:7 -:41");
        }
        for (int n = 1; n < 11; n++) {
            SqueezedVolume v = Volumes.without(Volumes.filled(8, 8), 1);
            v.cutAfter(n);
            dueCut(v.squeeze());
            Check.due("one group of 8, behind " + n, Volumes.spent(v, v::mount), 8 + 2);
        }
        for (int n = 1; n < 13; n++) {
            SqueezedVolume v = Volumes.without(Volumes.filled(8, 9), 1);
            v.cutAfter(n);
            dueCut(v.squeeze());
            Check.due("8 and 1, behind " + n, Volumes.spent(v, v::mount), n < 10 ? 8 + 1 + 1 + 2 : 1 + 2);
        }
    }

    private static void mountsRest() {
        // By 2, a file of 3: L 2 L 1 and a change of 2; by 3, a file of 2: L 2 and a change of 2.
        int[] due = {0, 11, 11, 11, 8, 8, 8, 5, 4, 4, 4, 4};
        for (int n = 0; n < due.length; n++) {
            SqueezedVolume v = Volumes.without(Volumes.filled(2, 3, 1, 2), 1, 3);
            String content = Volumes.content(v);
            v.cutAfter(n);
            dueCut(v.squeeze());
            Check.due("permanent files", Volumes.spent(v, () -> dueTwo(v.mount())), due[n]);
            Check.due("layout behind " + n, Volumes.layout(v), n == 0 ? "-:2 p2:3 -:1 p4:2 -:40" : "p2:3 p4:2 -:43");
            Check.due("content behind " + n, Volumes.content(v), content);
            v.cutAfter(0);
            if (n > 0) {
                Check.due("nothing is left", v.squeeze(), 0);
            }
            Volumes.turnOff(v);
            Check.due("nothing is gone on with twice", Volumes.spent(v, v::mount), 0);
        }
    }

    private static long dueTwo(long answer) {
        Check.due("mount", answer, 2);
        return answer;
    }

    private static void mountsNotBegun() {
        SqueezedVolume v = Volumes.without(Volumes.filled(2, 3), 1);
        String before = Volumes.view(v);
        v.cutAfter(0);
        dueCut(v.squeeze());
        Check.due("mount", v.mount(), 1);
        Check.due("behind no write", Volumes.view(v), before);
        Volumes.turnOff(v);
        Check.due("mount", v.mount(), 1);
        Check.due("nor later", Volumes.view(v), before);
        Check.due("a new squeeze", v.squeeze(), 3);
    }

    private static void mountsEnded() {
        SqueezedVolume whole = Volumes.without(Volumes.filled(2, 3, 4), 1);
        whole.squeeze();
        dueLeftAlone("a squeeze", whole);
        SqueezedVolume mounted = Volumes.without(Volumes.filled(2, 3, 4), 1);
        mounted.cutAfter(9);
        dueCut(mounted.squeeze());
        mounted.mount();
        dueLeftAlone("a squeeze that mount ended", mounted);
        SqueezedVolume none = Volumes.filled(2, 3, 4);
        none.delete(1);
        Volumes.turnOff(none);
        Check.due("no squeeze at all", Volumes.spent(none, none::mount), 0);
        Check.due("layout", Volumes.layout(none), "-:2 p2:3 p3:4 -:39");
    }

    private static void dueLeftAlone(String what, SqueezedVolume v) {
        Check.due("layout", Volumes.layout(v), "p2:3 p3:4 -:41");
        v.delete(2);
        for (int n = 0; n < 2; n++) {
            v.cutAfter(n);
            dueCut(v.rename(3, 5));
            Check.due("mount behind " + what, Volumes.spent(v, v::mount), 0);
            Check.due("layout", Volumes.layout(v), "-:3 p3:4 -:41");
        }
    }

    private static void mountsTentative() {
        for (int count = 0; count <= 4; count++) {
            SqueezedVolume v = Volumes.filled(2, 3);
            for (int i = 0; i < count; i++) {
                v.enter(5, 4);
            }
            Volumes.turnOff(v);
            int writes = Volumes.spent(v, () -> dueTwo(v.mount()));
            Check.due("writes of mount with " + count, writes, count == 0 ? 0 : 2);
            Check.due("layout", Volumes.layout(v), "p1:2 p2:3 -:43");
            Check.due("no handle of the name", v.handle(5), -1);
            for (int handle = 0; handle < 4; handle++) {
                int gone = handle;
                Volumes.refused("handle " + handle, NO_ELEMENT, v, () -> v.put(gone, 0, 1));
                Volumes.refused("handle " + handle, NO_ELEMENT, v, () -> v.close(gone, 1));
                Volumes.refused("handle " + handle, NO_ELEMENT, v, () -> v.purge(gone));
            }
            Check.due("the least is free", v.enter(5, 4), 0);
        }
    }

    private static void offFirst() {
        SqueezedVolume v = Volumes.filled(3);
        v.enter(9, 2);
        Volumes.turnOff(v);
        refuseAllOff(v);
        Check.due("isOn", v.isOn() ? 1 : 0, 0);
        Check.due("writes", v.writes(), 2 + 3 + 2 + 2);
        Check.due("mount is not refused", v.mount(), 1);
    }

    /** Right arguments and wrong ones: power is looked at before them. */
    private static void refuseAllOff(SqueezedVolume v) {
        int[] some = {Integer.MIN_VALUE, -2, -1, 0, 1, 3, 4, 9, 48, 49, 999, 1000, Integer.MAX_VALUE};
        for (int a : some) {
            for (int b : some) {
                Volumes.refused("enter", STATE, v, () -> v.enter(a, b));
                Volumes.refused("put", STATE, v, () -> v.put(a, b, 7));
                Volumes.refused("close", STATE, v, () -> v.close(a, b));
                Volumes.refused("rename", STATE, v, () -> v.rename(a, b));
                Volumes.refused("read", STATE, v, () -> v.read(a, b));
                Volumes.refused("entry", STATE, v, () -> v.entry(a, b));
            }
            Volumes.refused("purge", STATE, v, () -> v.purge(a));
            Volumes.refused("delete", STATE, v, () -> v.delete(a));
            Volumes.refused("cutAfter", STATE, v, () -> Volumes.cutAfter(v, a));
            Volumes.refused("handle", STATE, v, () -> v.handle(a));
        }
        Volumes.refused("squeeze", STATE, v, v::squeeze);
        Volumes.refused("entries", STATE, v, v::entries);
        Volumes.refused("free", STATE, v, () -> v.free(true));
        Volumes.refused("free", STATE, v, () -> v.free(false));
    }

    private static void offLeaves() {
        SqueezedVolume v = oneMove();
        SqueezedVolume same = oneMove();
        v.cutAfter(6);
        same.cutAfter(6);
        Check.due("squeeze", v.squeeze(), same.squeeze());
        refuseAllOff(v);
        Check.due("mount", v.mount(), same.mount());
        Check.due("all that can be seen", Volumes.view(v), Volumes.view(same));
        Check.due("all ints", Volumes.allInts(v), Volumes.allInts(same));

        v = busy();
        same = busy();
        Check.due("delete", v.delete(1) + v.delete(3), same.delete(1) + same.delete(3));
        refuseAllOff(v);
        Check.due("mount", v.mount(), same.mount());
        Check.due("all that can be seen", Volumes.view(v), Volumes.view(same));
        Check.due("all ints", Volumes.allInts(v), Volumes.allInts(same));
    }

    private static void exceptionOrder() {
        SqueezedVolume full = Volumes.filled(10);
        for (int i = 0; i < 4; i++) {
            full.enter(2 + i, 2);
        }
        Volumes.refused("enter: argument, 4 files, no room", ARGUMENT, full, () -> full.enter(0, 48));
        Volumes.refused("enter: argument, 4 files", ARGUMENT, full, () -> full.enter(1, 49));
        Volumes.refused("enter: 4 files, no room", STATE, full, () -> full.enter(1, 48));
        full.purge(0);
        Volumes.refused("enter: argument, no room", ARGUMENT, full, () -> full.enter(1000, 48));
        Volumes.refused("enter: no room", UNSUPPORTED, full, () -> full.enter(1, 48));

        Volumes.refused("put: handle, block", NO_ELEMENT, full, () -> full.put(0, 2, 0));
        Volumes.refused("put: block", ARGUMENT, full, () -> full.put(1, 2, 0));
        Volumes.refused("read: name, block", NO_ELEMENT, full, () -> full.read(3, -1));
        Volumes.refused("read: block", ARGUMENT, full, () -> full.read(1, -1));

        SqueezedVolume many = Volumes.files(14, 3);
        many.enter(20, 3);
        many.enter(21, 3);
        Check.due("entries", many.entries(), 16);
        Volumes.refused("close: handle, used", NO_ELEMENT, many, () -> many.close(2, 0));
        Volumes.refused("close: used", ARGUMENT, many, () -> many.close(0, 4));
        Volumes.refused("close: 17 entries", UNSUPPORTED, many, () -> many.close(0, 2));

        Volumes.refused("rename: to, name", ARGUMENT, many, () -> many.rename(20, 0));
        Volumes.refused("rename: name, the other is there", NO_ELEMENT, many, () -> many.rename(20, 1));
        Volumes.refused("rename: neither is there", NO_ELEMENT, many, () -> many.rename(20, 20));
        Volumes.refused("rename: the other is there", UNSUPPORTED, many, () -> many.rename(2, 1));

        Volumes.refused("entry: what, k", ARGUMENT, many, () -> many.entry(16, 4));
        Volumes.refused("entry: what, k", ARGUMENT, many, () -> many.entry(-1, -1));
        Volumes.refused("entry: k", BOUNDS, many, () -> many.entry(16, 3));
    }

    private static void cutIsOff() {
        Act[] acts = {
            v -> v.enter(5, 1), v -> v.put(0, 0, 1), v -> v.close(0, 1), v -> v.purge(0), v -> v.delete(1),
            v -> v.rename(1, 5),
        };
        for (Act act : acts) {
            SqueezedVolume v = Volumes.filled(3);
            v.enter(9, 2);
            v.cutAfter(0);
            Check.due("the call", act.on(v), CUT);
            Check.due("isOn", v.isOn() ? 1 : 0, 0);
        }
        SqueezedVolume v = oneMove();
        v.cutAfter(0);
        Check.due("squeeze", v.squeeze(), CUT);
        Check.due("isOn", v.isOn() ? 1 : 0, 0);
    }
}
