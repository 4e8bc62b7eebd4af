import java.util.NoSuchElementException;

/** Promise by promise: ordinary inputs, the edges that the document names, wrong inputs. */
final class PromiseTests {
    private static final Class<IllegalStateException> STATE = IllegalStateException.class;
    private static final Class<IllegalArgumentException> ARGUMENT = IllegalArgumentException.class;
    private static final Class<NoSuchElementException> NO_ELEMENT = NoSuchElementException.class;
    private static final Class<UnsupportedOperationException> UNSUPPORTED = UnsupportedOperationException.class;
    private static final Class<IndexOutOfBoundsException> BOUNDS = IndexOutOfBoundsException.class;
    private static final int CUT = SqueezedVolume.CUT;

    private PromiseTests() {
    }

    static void runAll() {
        Check.run("1: a new object", PromiseTests::newObject);
        Check.run("2: enter opens where it should", PromiseTests::enterPlaces);
        Check.run("2: enter with 0 blocks", PromiseTests::enterZero);
        Check.run("2: enter gives the least free handle", PromiseTests::enterHandles);
        Check.run("2: enter keeps the blocks", PromiseTests::enterKeepsBlocks);
        Check.run("2: enter refuses", PromiseTests::enterRefuses);
        Check.run("2: enter and 16 entries", PromiseTests::enterSixteen);
        Check.run("2: enter cut", PromiseTests::enterCut);
        Check.run("3: put writes", PromiseTests::putWrites);
        Check.run("3: put refuses", PromiseTests::putRefuses);
        Check.run("3: put cut", PromiseTests::putCut);
        Check.run("4: close", PromiseTests::closeMakesPermanent);
        Check.run("4: close and an older file", PromiseTests::closeOlder);
        Check.run("4: close refuses", PromiseTests::closeRefuses);
        Check.run("4: close and 16 entries", PromiseTests::closeSixteen);
        Check.run("4: close cut", PromiseTests::closeCut);
        Check.run("5: purge", PromiseTests::purgeEmpties);
        Check.run("5: purge refuses", PromiseTests::purgeRefuses);
        Check.run("6: delete", PromiseTests::deleteEmpties);
        Check.run("6: delete refuses", PromiseTests::deleteRefuses);
        Check.run("7: rename", PromiseTests::renameRenames);
        Check.run("7: rename refuses", PromiseTests::renameRefuses);
        Check.run("8: read", PromiseTests::readReads);
        Check.run("8: read refuses", PromiseTests::readRefuses);
        Check.run("9: squeeze", PromiseTests::squeezeMoves);
        Check.run("9: squeeze counts writes by groups", PromiseTests::squeezeGroups);
        Check.run("9: squeeze refuses", PromiseTests::squeezeRefuses);
        Check.run("9: squeeze cut", PromiseTests::squeezeCut);
        Check.run("10: mount", PromiseTests::mountMounts);
        Check.run("10: mount goes on with the move", PromiseTests::mountGoesOn);
        Check.run("10: mount leaves what was not broken off", PromiseTests::mountLeavesOthers);
        Check.run("10: mount refuses", PromiseTests::mountRefuses);
        Check.run("11: cutAfter", PromiseTests::cutAfterCuts);
        Check.run("11: cutAfter refuses", PromiseTests::cutAfterRefuses);
        Check.run("12: entry", PromiseTests::entryTells);
        Check.run("12: entry refuses", PromiseTests::entryRefuses);
        Check.run("13: entries", PromiseTests::entriesCounts);
        Check.run("14: free", PromiseTests::freeTells);
        Check.run("15: handle", PromiseTests::handleFinds);
        Check.run("16: writes", PromiseTests::writesCounts);
        Check.run("17: isOn", PromiseTests::isOnTells);
    }

    private static SqueezedVolume off() {
        SqueezedVolume v = Volumes.filled(3);
        v.enter(9, 2);
        v.cutAfter(0);
        v.purge(0);
        return v;
    }

    private static void newObject() {
        SqueezedVolume v = new SqueezedVolume();
        Check.due("layout", Volumes.layout(v), "-:48");
        Check.due("writes", v.writes(), 0);
        Check.due("isOn", v.isOn() ? 1 : 0, 1);
        Check.due("CUT", CUT, -1);
        v.enter(1, 48);
        for (int i = 0; i < 48; i++) {
            v.put(0, i, i);
        }
        Check.due("isOn after 50 writes", v.isOn() ? 1 : 0, 1);
        SqueezedVolume other = new SqueezedVolume();
        other.enter(1, 48);
        other.close(0, 48);
        for (int i = 0; i < 48; i++) {
            Check.due("block " + i + " at first", other.read(1, i), 0);
        }
    }

    private static void enterPlaces() {
        SqueezedVolume v = Volumes.without(Volumes.filled(3, 1, 5, 1, 3, 1), 1, 3, 5);
        Check.due("layout", Volumes.layout(v), "-:3 p2:1 -:5 p4:1 -:3 p6:1 -:34");
        int before = v.writes();
        Check.due("the smallest, the lowest of the same", v.enter(10, 3), 0);
        Check.due("writes", v.writes() - before, 3);
        Check.due("layout", Volumes.layout(v), "t10:3 p2:1 -:5 p4:1 -:3 p6:1 -:34");
        Check.due("the smallest that is long enough", v.enter(11, 4), 1);
        Check.due("layout", Volumes.layout(v), "t10:3 p2:1 t11:4 -:1 p4:1 -:3 p6:1 -:34");
        Check.due("a part of it, from its beginning", v.enter(999, 2), 2);
        Check.due("layout", Volumes.layout(v), "t10:3 p2:1 t11:4 -:1 p4:1 t999:2 -:1 p6:1 -:34");
        Check.due("only the longest", v.enter(1, 34), 3);
        Check.due("layout", Volumes.layout(v), "t10:3 p2:1 t11:4 -:1 p4:1 t999:2 -:1 p6:1 t1:34");
        Check.due("writes", v.writes() - before, 3 + 3 + 4 + 4);
    }

    private static void enterZero() {
        SqueezedVolume v = new SqueezedVolume();
        v.enter(1, 0);
        Check.due("half of 48", v.entry(0, 2), 24);
        v.enter(2, 0);
        Check.due("half of 24", v.entry(1, 2), 12);
        v.purge(0);
        v.enter(3, 0);
        Check.due("half of 24 and the second, 12", Volumes.layout(v), "-:24 t2:12 t3:12");

        v = Volumes.without(Volumes.filled(20, 1, 15), 1);
        Check.due("layout", Volumes.layout(v), "-:20 p2:1 p3:15 -:12");
        v.enter(1, 0);
        Check.due("the second longest, 12", Volumes.layout(v), "-:20 p2:1 p3:15 t1:12");
        v.enter(4, 0);
        Check.due("half of 20", Volumes.layout(v), "t4:10 -:10 p2:1 p3:15 t1:12");

        v = Volumes.without(Volumes.filled(7, 30, 7), 1);
        v.enter(5, 0);
        Check.due("half of 7 and 4", Volumes.layout(v), "-:7 p2:30 p3:7 t5:4");

        v = Volumes.without(Volumes.filled(7, 27, 7), 1);
        v.enter(5, 0);
        Check.due("two of the same", Volumes.layout(v), "t5:7 p2:27 p3:7 -:7");

        v = Volumes.without(Volumes.filled(5, 43), 1);
        v.enter(5, 0);
        Check.due("half of 5 rounded down", Volumes.layout(v), "t5:2 -:3 p2:43");

        v = Volumes.without(Volumes.filled(1, 47), 1);
        SqueezedVolume one = v;
        Check.thrown("half of 1", UNSUPPORTED, () -> one.enter(5, 0));
        SqueezedVolume full = Volumes.filled(48);
        Check.thrown("no empty entry", UNSUPPORTED, () -> full.enter(5, 0));
        SqueezedVolume twoOnes = Volumes.without(Volumes.filled(1, 46, 1), 1, 3);
        Check.due("the second of 1 and 1", twoOnes.enter(5, 0), 0);
        Check.due("layout", Volumes.layout(twoOnes), "t5:1 p2:46 -:1");
    }

    private static void enterHandles() {
        SqueezedVolume v = new SqueezedVolume();
        for (int i = 0; i < 4; i++) {
            Check.due("handle", v.enter(7, 2), i);
        }
        v.purge(2);
        v.close(1, 2);
        Check.due("least free", v.enter(8, 1), 1);
        Check.due("next free", v.enter(9, 1), 2);
    }

    private static void enterKeepsBlocks() {
        SqueezedVolume v = Volumes.without(Volumes.filled(4, 2), 1);
        v.enter(8, 3);
        v.close(0, 3);
        Check.due("content", Volumes.content(v), "8( 100 101 102 ) 2( 200 201 ) ");
    }

    private static void enterRefuses() {
        SqueezedVolume v = Volumes.filled(10);
        int before = v.writes();
        for (int name : new int[] {0, -1, 1000, Integer.MIN_VALUE, Integer.MAX_VALUE}) {
            Check.thrown("name " + name, ARGUMENT, () -> v.enter(name, 1));
        }
        for (int blocks : new int[] {-1, 49, Integer.MIN_VALUE, Integer.MAX_VALUE}) {
            Check.thrown("blocks " + blocks, ARGUMENT, () -> v.enter(1, blocks));
        }
        Check.thrown("too long", UNSUPPORTED, () -> v.enter(1, 39));
        Check.thrown("48 of 38", UNSUPPORTED, () -> v.enter(1, 48));
        Check.due("refused calls write nothing", v.writes(), before);
        for (int i = 0; i < 4; i++) {
            v.enter(2, 1);
        }
        Check.thrown("a fifth", STATE, () -> v.enter(2, 1));
        Check.thrown("a fifth, too long", STATE, () -> v.enter(2, 48));
        Check.thrown("a fifth with a wrong name", ARGUMENT, () -> v.enter(0, 1));
        Check.thrown("a fifth with wrong blocks", ARGUMENT, () -> v.enter(1, 49));
        Check.due("layout", Volumes.layout(v), "p1:10 t2:1 t2:1 t2:1 t2:1 -:34");
        SqueezedVolume off = off();
        Check.thrown("power is off", STATE, () -> off.enter(0, 99));
    }

    private static void enterSixteen() {
        SqueezedVolume v = Volumes.filled(1, 1, 1, 1, 1, 1, 1, 1, 1, 1, 1, 1, 1, 1, 1);
        Check.due("entries", v.entries(), 16);
        Check.thrown("a 17th", UNSUPPORTED, () -> v.enter(16, 1));
        Check.thrown("a 17th, with 0", UNSUPPORTED, () -> v.enter(16, 0));
        v.delete(3);
        Check.due("one that fits", v.enter(16, 1), 0);
        Check.thrown("a 17th", UNSUPPORTED, () -> v.enter(17, 32));
        Check.due("all of the last", v.enter(17, 33), 1);
        Check.due("entries", v.entries(), 16);
    }

    private static void enterCut() {
        for (int n = 0; n < 2; n++) {
            SqueezedVolume v = new SqueezedVolume();
            v.cutAfter(n);
            Check.due("enter", v.enter(1, 5), CUT);
            Check.due("writes", v.writes(), n);
            Check.due("permanent ones", v.mount(), 0);
            Check.due("no change at mount", v.writes(), n);
            Check.due("layout", Volumes.layout(v), "-:48");
            Check.due("enter again", v.enter(1, 5), 0);
        }
    }

    private static void putWrites() {
        SqueezedVolume v = Volumes.filled(3);
        int handle = v.enter(2, 4);
        int before = v.writes();
        Check.due("put", v.put(handle, 0, Integer.MIN_VALUE), 0);
        Check.due("put", v.put(handle, 3, Integer.MAX_VALUE), 0);
        Check.due("put", v.put(handle, 3, -1), 0);
        Check.due("writes", v.writes() - before, 3);
        v.close(handle, 4);
        Check.due("content", Volumes.content(v), "1( 100 101 102 ) 2( -2147483648 0 0 -1 ) ");
    }

    private static void putRefuses() {
        SqueezedVolume v = Volumes.filled(3);
        v.enter(2, 4);
        v.enter(2, 5);
        v.purge(0);
        int before = v.writes();
        for (int handle : new int[] {-1, 0, 2, 3, 4, Integer.MIN_VALUE, Integer.MAX_VALUE}) {
            Check.thrown("handle " + handle, NO_ELEMENT, () -> v.put(handle, 0, 1));
            Check.thrown("handle " + handle + " and block -1", NO_ELEMENT, () -> v.put(handle, -1, 1));
        }
        for (int block : new int[] {-1, 5, 48, Integer.MIN_VALUE, Integer.MAX_VALUE}) {
            Check.thrown("block " + block, ARGUMENT, () -> v.put(1, block, 1));
        }
        Check.due("refused calls write nothing", v.writes(), before);
        SqueezedVolume off = off();
        Check.thrown("power is off", STATE, () -> off.put(9, -1, 1));
    }

    private static void putCut() {
        SqueezedVolume v = new SqueezedVolume();
        v.enter(1, 2);
        v.put(0, 0, 5);
        v.cutAfter(1);
        Check.due("put", v.put(0, 0, 6), 0);
        Check.due("put", v.put(0, 1, 7), CUT);
        Check.due("isOn", v.isOn() ? 1 : 0, 0);
        v.mount();
        v.enter(1, 2);
        v.close(0, 2);
        Check.due("what was written stays", v.read(1, 0), 6);
        Check.due("the last was not made", v.read(1, 1), 0);
    }

    private static void closeMakesPermanent() {
        SqueezedVolume v = new SqueezedVolume();
        v.enter(1, 5);
        v.enter(2, 5);
        int before = v.writes();
        Check.due("with all", v.close(0, 5), 0);
        Check.due("layout", Volumes.layout(v), "p1:5 t2:5 -:38");
        Check.due("with the first one", v.close(1, 1), 4);
        Check.due("layout", Volumes.layout(v), "p1:5 p2:1 -:42");
        Check.due("writes", v.writes() - before, 4);
        Check.thrown("the handle is gone", NO_ELEMENT, () -> v.close(0, 1));
        Check.due("the handle is free", v.enter(3, 2), 0);
        v.enter(4, 1);
        Check.due("the others stay between", v.close(0, 1), 1);
        Check.due("layout", Volumes.layout(v), "p1:5 p2:1 p3:1 -:1 t4:1 -:39");
    }

    private static void closeOlder() {
        SqueezedVolume v = Volumes.filled(4, 3, 2);
        v.enter(2, 6);
        int before = v.writes();
        Check.due("the older one and the rest", v.close(0, 5), 3 + 1);
        Check.due("layout", Volumes.layout(v), "p1:4 -:3 p3:2 p2:5 -:34");
        Check.due("one change", v.writes() - before, 3);
        Check.due("an older one that is longer", v.enter(1, 3), 0);
        Check.due("close", v.close(0, 2), 4 + 1);
        Check.due("all become one", Volumes.layout(v), "-:4 p1:2 -:1 p3:2 p2:5 -:34");
        v.enter(1, 4);
        Check.due("the older one behind it", v.close(0, 3), 2 + 1);
        Check.due("layout", Volumes.layout(v), "p1:3 -:4 p3:2 p2:5 -:34");
        v.enter(3, 4);
        v.enter(3, 3);
        Check.due("only permanent ones count", v.close(1, 3), 2);
        Check.due("layout", Volumes.layout(v), "p1:3 t3:4 -:2 p2:5 p3:3 -:31");
        Check.due("the later one wins", v.close(0, 4), 3);
        Check.due("layout", Volumes.layout(v), "p1:3 p3:4 -:2 p2:5 -:34");
    }

    private static void closeRefuses() {
        SqueezedVolume v = Volumes.filled(3);
        v.enter(2, 4);
        int before = v.writes();
        for (int handle : new int[] {-1, 1, 3, 4, Integer.MIN_VALUE, Integer.MAX_VALUE}) {
            Check.thrown("handle " + handle, NO_ELEMENT, () -> v.close(handle, 1));
            Check.thrown("handle " + handle + " and used 0", NO_ELEMENT, () -> v.close(handle, 0));
        }
        for (int used : new int[] {-1, 0, 5, Integer.MIN_VALUE, Integer.MAX_VALUE}) {
            Check.thrown("used " + used, ARGUMENT, () -> v.close(0, used));
        }
        Check.due("refused calls write nothing", v.writes(), before);
        Check.due("the file is there", v.handle(2), 0);
        SqueezedVolume off = off();
        Check.thrown("power is off", STATE, () -> off.close(9, 0));
    }

    private static void closeSixteen() {
        SqueezedVolume v = Volumes.filled(2, 2, 2, 2, 2, 2, 2, 2, 2, 2, 2, 2, 2, 2);
        v.enter(15, 5);
        v.enter(16, 15);
        Check.due("entries", v.entries(), 16);
        int before = v.writes();
        Check.thrown("one more behind it", UNSUPPORTED, () -> v.close(0, 4));
        Check.thrown("one more at the end", UNSUPPORTED, () -> v.close(1, 1));
        Check.thrown("used is looked at before", ARGUMENT, () -> v.close(1, 16));
        Check.due("refused calls write nothing", v.writes(), before);
        Check.due("with all", v.close(0, 5), 0);
        v.delete(1);
        Check.due("entries", v.entries(), 16);
        Check.thrown("one more at the end, still", UNSUPPORTED, () -> v.close(1, 1));
        v.purge(1);
        v.enter(2, 15);
        Check.due("the older one becomes one with another", v.close(0, 14), 2 + 1);
        Check.due("entries", v.entries(), 16);
    }

    private static void closeCut() {
        for (int n = 0; n < 2; n++) {
            SqueezedVolume v = Volumes.filled(2);
            v.enter(1, 5);
            v.put(0, 0, 77);
            int before = v.writes();
            v.cutAfter(n);
            Check.due("close", v.close(0, 1), CUT);
            Check.due("writes", v.writes() - before, n);
            Check.due("mount", v.mount(), 1);
            Check.due("mount makes them empty", v.writes() - before, n + 2);
            Check.due("layout", Volumes.layout(v), "p1:2 -:46");
            Check.due("the older one stays", v.read(1, 0), 100);
            Check.thrown("the handle is gone", NO_ELEMENT, () -> v.close(0, 1));
        }
        SqueezedVolume v = Volumes.filled(2);
        v.enter(1, 5);
        v.cutAfter(2);
        Check.due("with the last write it holds", v.close(0, 1), 2 + 4);
        Check.due("layout", Volumes.layout(v), "-:2 p1:1 -:45");
        Check.due("power is on until one more is to be made", v.isOn() ? 1 : 0, 1);
    }

    private static void purgeEmpties() {
        SqueezedVolume v = Volumes.filled(2);
        v.enter(1, 5);
        v.enter(3, 4);
        int before = v.writes();
        Check.due("purge", v.purge(0), 5);
        Check.due("writes", v.writes() - before, 2);
        Check.due("layout", Volumes.layout(v), "p1:2 -:5 t3:4 -:37");
        Check.due("purge", v.purge(1), 4);
        Check.due("all become one", Volumes.layout(v), "p1:2 -:46");
        v.enter(1, 46);
        v.cutAfter(1);
        Check.due("purge", v.purge(0), CUT);
        Check.due("mount", v.mount(), 1);
        Check.due("layout", Volumes.layout(v), "p1:2 -:46");
    }

    private static void purgeRefuses() {
        SqueezedVolume v = Volumes.filled(3);
        v.enter(2, 4);
        int before = v.writes();
        for (int handle : new int[] {-1, 1, 3, 4, Integer.MIN_VALUE, Integer.MAX_VALUE}) {
            Check.thrown("handle " + handle, NO_ELEMENT, () -> v.purge(handle));
        }
        Check.due("refused calls write nothing", v.writes(), before);
        SqueezedVolume off = off();
        Check.thrown("power is off", STATE, () -> off.purge(0));
        Check.thrown("power is off, no handle", STATE, () -> off.purge(9));
    }

    private static void deleteEmpties() {
        SqueezedVolume v = Volumes.filled(2, 3, 4);
        int before = v.writes();
        Check.due("delete", v.delete(2), 3);
        Check.due("writes", v.writes() - before, 2);
        Check.due("layout", Volumes.layout(v), "p1:2 -:3 p3:4 -:39");
        Check.due("delete", v.delete(1), 2);
        Check.due("one with the next", Volumes.layout(v), "-:5 p3:4 -:39");
        v.cutAfter(1);
        Check.due("delete", v.delete(3), CUT);
        Check.due("mount", v.mount(), 1);
        Check.due("nothing changed", Volumes.layout(v), "-:5 p3:4 -:39");
        Check.due("delete", v.delete(3), 4);
        Check.due("all become one", Volumes.layout(v), "-:48");
    }

    private static void deleteRefuses() {
        SqueezedVolume v = Volumes.filled(3, 3);
        v.delete(2);
        v.enter(5, 3);
        int before = v.writes();
        for (int name : new int[] {0, 2, 5, -1, 1000, Integer.MIN_VALUE, Integer.MAX_VALUE}) {
            Check.thrown("name " + name, NO_ELEMENT, () -> v.delete(name));
        }
        Check.due("refused calls write nothing", v.writes(), before);
        SqueezedVolume off = off();
        Check.thrown("power is off", STATE, () -> off.delete(1));
        Check.thrown("power is off, no such name", STATE, () -> off.delete(0));
    }

    private static void renameRenames() {
        SqueezedVolume v = Volumes.filled(2, 3);
        v.enter(7, 1);
        int before = v.writes();
        Check.due("rename", v.rename(1, 999), 0);
        Check.due("writes", v.writes() - before, 2);
        Check.due("layout", Volumes.layout(v), "p999:2 p2:3 t7:1 -:42");
        Check.due("a tentative one may have the name", v.rename(2, 7), 0);
        Check.due("layout", Volumes.layout(v), "p999:2 p7:3 t7:1 -:42");
        Check.due("the tentative one keeps its handle", v.handle(7), 0);
        Check.due("content", Volumes.content(v), "999( 100 101 ) 7( 200 201 202 ) ");
        v.cutAfter(1);
        Check.due("rename", v.rename(7, 1), CUT);
        v.mount();
        Check.due("layout", Volumes.layout(v), "p999:2 p7:3 -:43");
    }

    private static void renameRefuses() {
        SqueezedVolume v = Volumes.filled(2, 3);
        v.enter(7, 1);
        int before = v.writes();
        for (int to : new int[] {0, -1, 1000, Integer.MIN_VALUE, Integer.MAX_VALUE}) {
            Check.thrown("to " + to, ARGUMENT, () -> v.rename(1, to));
            Check.thrown("to " + to + ", no such file", ARGUMENT, () -> v.rename(8, to));
        }
        for (int name : new int[] {0, 7, 8, -1, 1000, Integer.MIN_VALUE, Integer.MAX_VALUE}) {
            Check.thrown("name " + name, NO_ELEMENT, () -> v.rename(name, 5));
            Check.thrown("name " + name + " to one that is there", NO_ELEMENT, () -> v.rename(name, 2));
        }
        Check.thrown("to one that is there", UNSUPPORTED, () -> v.rename(1, 2));
        Check.thrown("to the same", UNSUPPORTED, () -> v.rename(1, 1));
        Check.due("refused calls write nothing", v.writes(), before);
        SqueezedVolume off = off();
        Check.thrown("power is off", STATE, () -> off.rename(1, 0));
        Check.thrown("power is off", STATE, () -> off.rename(5, 6));
    }

    private static void readReads() {
        SqueezedVolume v = Volumes.filled(2, 3);
        int before = v.writes();
        Check.due("first", v.read(2, 0), 200);
        Check.due("last", v.read(2, 2), 202);
        Check.due("the lower one", v.read(1, 1), 101);
        Check.due("no writes", v.writes(), before);
        v.enter(2, 1);
        Check.due("the permanent one is read", v.read(2, 0), 200);
    }

    private static void readRefuses() {
        SqueezedVolume v = Volumes.filled(2, 3);
        v.enter(7, 5);
        for (int name : new int[] {0, 7, 8, -1, 1000, Integer.MIN_VALUE, Integer.MAX_VALUE}) {
            Check.thrown("name " + name, NO_ELEMENT, () -> v.read(name, 0));
            Check.thrown("name " + name + ", block -1", NO_ELEMENT, () -> v.read(name, -1));
        }
        for (int block : new int[] {-1, 2, 48, Integer.MIN_VALUE, Integer.MAX_VALUE}) {
            Check.thrown("block " + block, ARGUMENT, () -> v.read(1, block));
        }
        SqueezedVolume off = off();
        Check.thrown("power is off", STATE, () -> off.read(1, 0));
        Check.thrown("power is off, nothing there", STATE, () -> off.read(5, -1));
    }

    private static void squeezeMoves() {
        SqueezedVolume v = Volumes.without(Volumes.filled(2, 3, 4, 5, 6), 1, 3, 4);
        Check.due("layout", Volumes.layout(v), "-:2 p2:3 -:9 p5:6 -:28");
        String content = Volumes.content(v);
        Check.due("squeeze", v.squeeze(), 3 + 6);
        Check.due("layout", Volumes.layout(v), "p2:3 p5:6 -:39");
        Check.due("content", Volumes.content(v), content);
        int before = v.writes();
        Check.due("squeeze again", v.squeeze(), 0);
        Check.due("nothing to write", v.writes(), before);
        Check.due("an empty volume", new SqueezedVolume().squeeze(), 0);
        Check.due("a full volume", Volumes.filled(48).squeeze(), 0);
        SqueezedVolume last = Volumes.without(Volumes.filled(1, 47), 1);
        Check.due("by one block", last.squeeze(), 47);
        Check.due("layout", Volumes.layout(last), "p2:47 -:1");
        for (int i = 0; i < 47; i++) {
            Check.due("block " + i, last.read(2, i), 200 + i);
        }
    }

    private static void squeezeGroups() {
        dueSqueeze(1, 5, 5 + 5 + 2);
        dueSqueeze(3, 7, 3 + 7 + 2);
        dueSqueeze(7, 14, 2 + 14 + 2);
        dueSqueeze(8, 16, 2 + 16 + 2);
        dueSqueeze(8, 17, 3 + 17 + 2);
        dueSqueeze(9, 18, 3 + 18 + 2);
        dueSqueeze(20, 7, 1 + 7 + 2);
        dueSqueeze(20, 8, 1 + 8 + 2);
        SqueezedVolume v = Volumes.without(Volumes.filled(1, 4, 2, 3, 1, 1), 1, 3);
        int before = v.writes();
        Check.due("squeeze", v.squeeze(), 4 + 3 + 1 + 1);
        // The way down grows from 1 to 3, and the entries fall from 7 to 6 and 5.
        Check.due("writes", v.writes() - before, (4 + 4 + 3) + (1 + 3 + 3) + (1 + 1 + 3) + (1 + 1 + 3));
        Check.due("layout", Volumes.layout(v), "p2:4 p4:3 p5:1 p6:1 -:39");
    }

    private static void dueSqueeze(int way, int length, int writes) {
        SqueezedVolume v = Volumes.without(Volumes.filled(way, length), 1);
        String content = Volumes.content(v);
        int before = v.writes();
        Check.due("squeeze", v.squeeze(), length);
        Check.due("writes of " + length + " by " + way, v.writes() - before, writes);
        Check.due("content", Volumes.content(v), content);
    }

    private static void squeezeRefuses() {
        SqueezedVolume v = Volumes.without(Volumes.filled(2, 3), 1);
        v.enter(5, 1);
        int before = v.writes();
        Check.thrown("a tentative file", STATE, v::squeeze);
        Check.due("refused calls write nothing", v.writes(), before);
        SqueezedVolume off = off();
        Check.thrown("power is off", STATE, off::squeeze);
        SqueezedVolume cut = Volumes.without(Volumes.filled(2, 3), 1);
        cut.cutAfter(1);
        cut.squeeze();
        before = cut.writes();
        Check.thrown("power is off, no tentative file", STATE, cut::squeeze);
        Check.due("power is still off", cut.isOn() ? 1 : 0, 0);
        Check.due("refused calls write nothing", cut.writes(), before);
    }

    private static void squeezeCut() {
        SqueezedVolume v = Volumes.without(Volumes.filled(2, 3), 1);
        v.cutAfter(0);
        Check.due("squeeze", v.squeeze(), CUT);
        int before = v.writes();
        v.mount();
        Check.due("before the first write nothing is left to go on with", v.writes(), before);
        Check.due("layout", Volumes.layout(v), "-:2 p2:3 -:43");
        v.cutAfter(2 + 3 + 2);
        Check.due("just enough writes", v.squeeze(), 3);
        Check.due("isOn", v.isOn() ? 1 : 0, 1);
        v.cutAfter(0);
        Check.due("nothing to write", v.squeeze(), 0);
        Check.due("isOn", v.isOn() ? 1 : 0, 1);
    }

    private static void mountMounts() {
        SqueezedVolume v = Volumes.filled(2, 3);
        v.enter(5, 1);
        v.enter(6, 2);
        v.enter(5, 3);
        v.purge(1);
        v.cutAfter(0);
        Check.due("delete", v.delete(2), CUT);
        int before = v.writes();
        Check.due("permanent ones", v.mount(), 2);
        Check.due("layout", Volumes.layout(v), "p1:2 p2:3 -:43");
        Check.due("one change for all", v.writes() - before, 2);
        Check.due("isOn", v.isOn() ? 1 : 0, 1);
        Check.due("handle", v.handle(5), -1);
        Check.due("the least handle is free", v.enter(9, 1), 0);
        Check.due("power fails no more", v.delete(2), 3);
        Check.due("isOn", v.isOn() ? 1 : 0, 1);
        Check.due("content", Volumes.content(v), "1( 100 101 ) ");
    }

    private static void mountGoesOn() {
        // By 3 blocks, 7 blocks: ledger, 3, ledger, 3, ledger, 1, change of 2.
        for (int n = 1; n < 12; n++) {
            SqueezedVolume v = Volumes.without(Volumes.filled(3, 7), 1);
            String content = Volumes.content(v);
            v.cutAfter(n);
            Check.due("squeeze", v.squeeze(), CUT);
            int before = v.writes();
            Check.due("mount", v.mount(), 1);
            int due = n <= 4 ? 3 + 1 + 3 + 1 + 1 + 2 : n <= 8 ? 3 + 1 + 1 + 2 : 1 + 2;
            Check.due("writes behind " + n, v.writes() - before, due);
            Check.due("layout", Volumes.layout(v), "p2:7 -:41");
            Check.due("content", Volumes.content(v), content);
            v.cutAfter(0);
            Check.due("squeeze", v.squeeze(), 0);
        }
    }

    private static void mountLeavesOthers() {
        SqueezedVolume v = Volumes.without(Volumes.filled(2, 3, 4), 1);
        Check.due("a squeeze that ended", v.squeeze(), 7);
        v.delete(2);
        int before = v.writes();
        v.cutAfter(0);
        Check.due("another call", v.rename(3, 1), CUT);
        Check.due("mount", v.mount(), 1);
        Check.due("no squeeze is gone on with", v.writes(), before);
        Check.due("layout", Volumes.layout(v), "-:3 p3:4 -:41");

        v.cutAfter(2);
        Check.due("a squeeze that is cut", v.squeeze(), CUT);
        v.mount();
        Check.due("layout", Volumes.layout(v), "p3:4 -:44");
        Volumes.fill(v, 4, 2);
        v.delete(3);
        before = v.writes();
        v.cutAfter(1);
        Check.due("another call", v.delete(4), CUT);
        Check.due("mount", v.mount(), 1);
        Check.due("what mount ended is not gone on with", v.writes(), before + 1);
        Check.due("layout", Volumes.layout(v), "-:4 p4:2 -:42");

        v.cutAfter(0);
        Check.due("a squeeze that did not begin", v.squeeze(), CUT);
        v.mount();
        v.cutAfter(0);
        Check.due("another call", v.delete(4), CUT);
        v.mount();
        Check.due("layout", Volumes.layout(v), "-:4 p4:2 -:42");
    }

    private static void mountRefuses() {
        SqueezedVolume v = Volumes.filled(2);
        Check.thrown("power is on", STATE, v::mount);
        v.cutAfter(0);
        Check.thrown("power is on still", STATE, v::mount);
        Check.due("enter", v.enter(3, 1), CUT);
        Check.due("mount", v.mount(), 1);
        Check.thrown("power is on again", STATE, v::mount);
    }

    private static void cutAfterCuts() {
        SqueezedVolume v = new SqueezedVolume();
        v.cutAfter(3);
        v.enter(1, 4);
        Check.due("the third", v.put(0, 0, 1), 0);
        Check.due("isOn", v.isOn() ? 1 : 0, 1);
        v.cutAfter(1);
        Check.due("in place of what was said", v.put(0, 1, 1), 0);
        v.cutAfter(-1);
        Check.due("never", v.put(0, 2, 1), 0);
        v.cutAfter(Integer.MAX_VALUE);
        Check.due("late", v.put(0, 2, 1), 0);
        v.cutAfter(0);
        v.entries();
        v.free(true);
        Check.thrown("a refused call", NO_ELEMENT, () -> v.put(1, 0, 1));
        Check.due("isOn: no write was to be made", v.isOn() ? 1 : 0, 1);
        Check.due("put", v.put(0, 3, 1), CUT);
        Check.due("isOn", v.isOn() ? 1 : 0, 0);
    }

    private static void cutAfterRefuses() {
        SqueezedVolume v = new SqueezedVolume();
        v.cutAfter(2);
        for (int n : new int[] {-2, -3, Integer.MIN_VALUE}) {
            Check.thrown("n " + n, ARGUMENT, () -> Volumes.cutAfter(v, n));
        }
        Check.due("what was said before stands", v.enter(1, 1), 0);
        Check.due("what was said before stands", v.put(0, 0, 1), CUT);
        Check.thrown("power is off", STATE, () -> Volumes.cutAfter(v, 5));
        Check.thrown("power is off, wrong n", STATE, () -> Volumes.cutAfter(v, -2));
    }

    private static void entryTells() {
        SqueezedVolume v = Volumes.without(Volumes.filled(4, 2), 1);
        v.enter(77, 30);
        int[][] due = {{0, 0, 4, 0}, {2, 4, 2, 2}, {1, 6, 30, 77}, {0, 36, 12, 0}};
        for (int k = 0; k < due.length; k++) {
            for (int what = 0; what < 4; what++) {
                Check.due("entry(" + k + ", " + what + ")", v.entry(k, what), due[k][what]);
            }
        }
    }

    private static void entryRefuses() {
        SqueezedVolume v = Volumes.filled(4);
        for (int k : new int[] {-1, 2, 15, 16, 17, Integer.MIN_VALUE, Integer.MAX_VALUE}) {
            for (int what = 0; what < 4; what++) {
                int asked = what;
                Check.thrown("entry " + k, BOUNDS, () -> v.entry(k, asked));
            }
            Check.thrown("entry " + k + ", what 4", ARGUMENT, () -> v.entry(k, 4));
        }
        for (int what : new int[] {-1, 4, Integer.MIN_VALUE, Integer.MAX_VALUE}) {
            Check.thrown("what " + what, ARGUMENT, () -> v.entry(0, what));
        }
        SqueezedVolume off = off();
        Check.thrown("power is off", STATE, () -> off.entry(-1, 4));
    }

    private static void entriesCounts() {
        SqueezedVolume v = Volumes.filled(4, 3, 2);
        Check.due("entries", v.entries(), 4);
        v.delete(2);
        Check.due("entries", v.entries(), 4);
        v.delete(1);
        Check.due("entries", v.entries(), 3);
        v.enter(1, 39);
        Check.due("entries", v.entries(), 3);
        SqueezedVolume off = off();
        Check.thrown("power is off", STATE, off::entries);
    }

    private static void freeTells() {
        SqueezedVolume v = Volumes.without(Volumes.filled(20, 1, 6, 1), 1, 3);
        Check.due("longest", v.free(true), 20);
        Check.due("all", v.free(false), 20 + 6 + 20);
        v.enter(1, 20);
        v.enter(2, 20);
        Check.due("tentative ones are not empty", v.free(true), 6);
        Check.due("all", v.free(false), 6);
        v.enter(3, 6);
        Check.due("without any", v.free(true), 0);
        Check.due("without any", v.free(false), 0);
        SqueezedVolume lowest = Volumes.without(Volumes.filled(30, 10), 1);
        Check.due("the lowest is the longest", lowest.free(true), 30);
        SqueezedVolume middle = Volumes.without(Volumes.filled(3, 1, 30, 10), 1, 3);
        Check.due("the longest is between", middle.free(true), 30);
        SqueezedVolume off = off();
        Check.thrown("power is off", STATE, () -> off.free(true));
        Check.thrown("power is off", STATE, () -> off.free(false));
    }

    private static void handleFinds() {
        SqueezedVolume v = Volumes.filled(3);
        Check.due("only permanent", v.handle(1), -1);
        v.enter(4, 1);
        v.enter(5, 5);
        v.enter(5, 5);
        v.purge(0);
        Check.due("enter", v.enter(6, 1), 0);
        Check.due("of several the least", v.handle(5), 1);
        v.purge(0);
        v.enter(5, 10);
        Check.due("the least, though it lies higher", v.handle(5), 0);
        v.purge(0);
        v.purge(1);
        Check.due("the other", v.handle(5), 2);
        for (int name : new int[] {0, 4, -1, 1000, Integer.MIN_VALUE, Integer.MAX_VALUE}) {
            Check.due("handle of " + name, v.handle(name), -1);
        }
        SqueezedVolume off = off();
        Check.thrown("power is off", STATE, () -> off.handle(9));
    }

    private static void writesCounts() {
        SqueezedVolume v = new SqueezedVolume();
        int[] due = {2, 2, 2, 3, 3, 3, 3, 4, 4, 4, 4, 5, 5, 5, 5};
        int sum = 0;
        for (int i = 0; i < due.length; i++) {
            v.enter(i + 1, 1);
            sum += due[i];
            Check.due("writes with " + v.entries() + " entries", v.writes(), sum);
            v.close(0, 1);
            sum += due[i];
            Check.due("writes with " + v.entries() + " entries", v.writes(), sum);
        }
        v.cutAfter(3);
        Check.due("delete", v.delete(1), CUT);
        Check.due("with power off", v.writes(), sum + 3);
    }

    private static void isOnTells() {
        SqueezedVolume v = new SqueezedVolume();
        v.cutAfter(1);
        Check.due("said is not failed", v.isOn() ? 1 : 0, 1);
        v.enter(1, 1);
        Check.due("failed", v.isOn() ? 1 : 0, 0);
        v.mount();
        Check.due("mounted", v.isOn() ? 1 : 0, 1);
    }
}
