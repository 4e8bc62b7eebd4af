/** Volumes made ready for a case, and what can be seen of one. */
final class Volumes {
    private Volumes() {
    }

    /** Opens, fills and closes a file; its i-th block gets name * 100 + i. */
    static void fill(SqueezedVolume v, int name, int length) {
        int handle = v.enter(name, length);
        for (int i = 0; i < length; i++) {
            v.put(handle, i, name * 100 + i);
        }
        v.close(handle, length);
    }

    /** Permanent files 1, 2, .. of these lengths from block 0 on. */
    static SqueezedVolume filled(int... lengths) {
        SqueezedVolume v = new SqueezedVolume();
        for (int i = 0; i < lengths.length; i++) {
            fill(v, i + 1, lengths[i]);
        }
        return v;
    }

    static SqueezedVolume without(SqueezedVolume v, int... names) {
        for (int name : names) {
            v.delete(name);
        }
        return v;
    }

    /** "p5:4 t6:3 -:41": permanent 5 of 4 blocks, tentative 6 of 3, 41 empty. Wrong begins are shown, too. */
    static String layout(SqueezedVolume v) {
        StringBuilder text = new StringBuilder();
        int begin = 0;
        for (int k = 0; k < v.entries(); k++) {
            int kind = v.entry(k, 0);
            text.append(k == 0 ? "" : " ").append("-tp".charAt(kind));
            if (kind != 0 || v.entry(k, 3) != 0) {
                text.append(v.entry(k, 3));
            }
            text.append(':').append(v.entry(k, 2));
            if (v.entry(k, 1) != begin) {
                text.append("@").append(v.entry(k, 1));
            }
            begin += v.entry(k, 2);
        }
        return text.toString();
    }

    /** All ints of the permanent files, in the order of the directory. */
    static String content(SqueezedVolume v) {
        StringBuilder text = new StringBuilder();
        for (int k = 0; k < v.entries(); k++) {
            if (v.entry(k, 0) == 2) {
                text.append(v.entry(k, 3)).append('(');
                for (int i = 0; i < v.entry(k, 2); i++) {
                    text.append(' ').append(v.read(v.entry(k, 3), i));
                }
                text.append(" ) ");
            }
        }
        return text.toString();
    }
}
