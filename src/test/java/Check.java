/** Counts what was due and what was not. */
final class Check {
    private int right;
    private int wrong;
    private String part = "";

    void begin(String name) {
        part = name;
    }

    void due(String call, long want, long got) {
        if (got == want) {
            right++;
        } else {
            wrong++;
            System.out.println(part + ": " + call + " answered " + got + ", due is " + want);
        }
    }

    void holds(String what, boolean truth) {
        due(what, 1, truth ? 1 : 0);
    }

    /** Tells the result; the exit code is 1 if anything was wrong. */
    void close(String name) {
        System.out.println(name + ": " + right + " right, " + wrong + " wrong");
        if (wrong != 0 || right == 0) {
            System.exit(1);
        }
    }

    /** Puts the text in place of the present one. */
    static void write(DobbyLoom loom, String text) {
        loom.clearText();
        for (int place = 0; place < text.length(); place++) {
            loom.append(text.charAt(place));
        }
    }

    static int load(DobbyLoom loom, String text) {
        write(loom, text);
        return loom.load();
    }

    /** A new loom with this chain. */
    static DobbyLoom loomWith(String chain) {
        DobbyLoom loom = new DobbyLoom();
        load(loom, chain);
        return loom;
    }
}
