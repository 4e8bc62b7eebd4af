/** Volumes made ready for a case, and what can be seen of one. */
final class Volumes {
    private Volumes() {
    }

    /** Opens, fills and closes a file; its i-th block gets name * 100 + i. */
    static void fill(SqueezedVolume v, int name, int length) {
        int handle = v.enter(name, length);
        for (int i = 0; i < length; i++) {
            v.put(handle, i, name * 100 + i);
        }
        v.close(handle, length);
    }

    /** Permanent files 1, 2, .. of these lengths from block 0 on. */
    static SqueezedVolume filled(int... lengths) {
        SqueezedVolume v = new SqueezedVolume();
        for (int i = 0; i < lengths.length; i++) {
            fill(v, i + 1, lengths[i]);
        }
        return v;
    }

    /** So many files of a length, with the names 1, 2, .., whose blocks keep what they have; the rest is empty. */
    static SqueezedVolume files(int count, int length) {
        SqueezedVolume v = new SqueezedVolume();
        for (int i = 0; i < count; i++) {
            fillNothing(v, i + 1, length);
        }
        return v;
    }

    static SqueezedVolume without(SqueezedVolume v, int... names) {
        for (int name : names) {
            v.delete(name);
        }
        return v;
    }

    /** "p5:4 t6:3 -:41": permanent 5 of 4 blocks, tentative 6 of 3, 41 empty. Wrong begins are shown, too. */
    static String layout(SqueezedVolume v) {
        StringBuilder text = new StringBuilder();
        int begin = 0;
        for (int k = 0; k < v.entries(); k++) {
            int kind = v.entry(k, 0);
            text.append(k == 0 ? "" : " ").append("-tp".charAt(kind));
            if (kind != 0 || v.entry(k, 3) != 0) {
                text.append(v.entry(k, 3));
            }
            text.append(':').append(v.entry(k, 2));
            if (v.entry(k, 1) != begin) {
                text.append("@").append(v.entry(k, 1));
            }
            begin += v.entry(k, 2);
        }
        return text.toString();
    }

    /** All ints of the permanent files, in the order of the directory. */
    static String content(SqueezedVolume v) {
        StringBuilder text = new StringBuilder();
        for (int k = 0; k < v.entries(); k++) {
            if (v.entry(k, 0) == 2) {
                text.append(v.entry(k, 3)).append('(');
                for (int i = 0; i < v.entry(k, 2); i++) {
                    text.append(' ').append(v.read(v.entry(k, 3), i));
                }
                text.append(" ) ");
            }
        }
        return text.toString();
    }

    /** All that can be seen of a volume without changing it, as one text. */
    static String view(SqueezedVolume v) {
        if (!v.isOn()) {
            return "off, " + v.writes() + " writes";
        }
        StringBuilder text = new StringBuilder(layout(v));
        for (int k = 0; k < v.entries(); k++) {
            if (v.entry(k, 0) == 1) {
                text.append(" h").append(v.entry(k, 3)).append('=').append(v.handle(v.entry(k, 3)));
            }
        }
        return text.append(", ").append(v.entries()).append(" entries, free ").append(v.free(true)).append(" of ")
                .append(v.free(false)).append(", ").append(v.writes()).append(" writes, ").append(content(v))
                .toString();
    }

    /** The ints of all 48 blocks, those of empty entries and tentative files too; all files are gone behind it. */
    static String allInts(SqueezedVolume v) {
        v.cutAfter(-1);
        for (int files = 0; files < 16 && v.free(false) < 48; files++) {
            dropLowest(v);
        }
        fillNothing(v, 999, 48);
        return content(v);
    }

    /** The lowest file becomes empty: what the call answers. */
    private static int dropLowest(SqueezedVolume v) {
        int k = 0;
        while (v.entry(k, 0) == 0) {
            k++;
        }
        int name = v.entry(k, 3);
        return v.entry(k, 0) == 1 ? v.purge(v.handle(name)) : v.delete(name);
    }

    /** Power fails in a call that changes nothing; there must be a file. */
    static void turnOff(SqueezedVolume v) {
        v.cutAfter(0);
        Check.due("a call without power", dropLowest(v), SqueezedVolume.CUT);
    }

    /** Opens and closes a file that keeps what its blocks have. */
    static void fillNothing(SqueezedVolume v, int name, int length) {
        v.close(v.enter(name, length), length);
    }

    /** The call is refused with that exception, and behind it nothing that can be seen differs. */
    static void refused(String what, Class<? extends RuntimeException> want, SqueezedVolume v, Check.Call call) {
        String before = view(v);
        Check.thrown(what, want, call);
        Check.due("all behind " + what, view(v), before);
    }

    /** As a call with an answer, 0. */
    static long cutAfter(SqueezedVolume v, int n) {
        v.cutAfter(n);
        return 0;
    }

    /** How many writes a call makes. */
    static int spent(SqueezedVolume v, Check.Call call) {
        int before = v.writes();
        call.answer();
        return v.writes() - before;
    }
}
