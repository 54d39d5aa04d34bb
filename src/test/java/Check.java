import java.util.function.IntSupplier;

/** Compares answers with those that are due, and puts texts on a tower's tape. */
final class Check {
    /** What an answer is written as, when the call throws. */
    static final String BAD_ARGUMENT = "throws.IllegalArgumentException";
    static final String BAD_INDEX = "throws.IndexOutOfBoundsException";
    static final String NOTHING = "throws.NoSuchElementException";

    private static int checked = 0;
    private static int wrong = 0;

    private Check() {
    }

    /** The exception's exact class counts: no class below the one that is due. */
    static String answer(IntSupplier call) {
        try {
            return Integer.toString(call.getAsInt());
        } catch (RuntimeException e) {
            return "throws." + e.getClass().getSimpleName();
        }
    }

    static void due(String what, String want, IntSupplier call) {
        String got = answer(call);
        checked++;
        if (!got.equals(want)) {
            wrong++;
            System.out.println(what + " answered " + got + ", due is " + want);
        }
    }

    static void due(String what, int want, IntSupplier call) {
        due(what, Integer.toString(want), call);
    }

    static void due(String what, boolean want, boolean got) {
        due(what, want ? 1 : 0, () -> got ? 1 : 0);
    }

    /** Puts this text alone on the tape. */
    static void tape(BellTower tower, String text) {
        tower.end(0);
        append(tower, text);
    }

    static void append(BellTower tower, String text) {
        int before = tower.count(2);
        for (int at = 0; at < text.length(); at += 20) {
            tower.feed(word(text, at), word(text, at + 4), word(text, at + 8), word(text, at + 12), word(text, at + 16));
        }
        tower.end(before + text.length());
    }

    static int word(String text, int at) {
        int word = 0;
        for (int i = at; i < at + 4; i++) {
            word = word << 8 | (i < text.length() ? text.charAt(i) & 255 : 0);
        }
        return word;
    }

    static int method(BellTower tower, int m, String text) {
        tape(tower, text);
        return tower.method(m);
    }

    static int compose(BellTower tower, String text) {
        tape(tower, text);
        return tower.compose();
    }

    static int music(BellTower tower, String text) {
        tape(tower, text);
        return tower.music();
    }

    static BellTower tower(int bells, String... methods) {
        BellTower tower = new BellTower();
        tower.stage(bells);
        for (int m = 0; m < methods.length; m++) {
            if (method(tower, m, methods[m]) < 0) {
                throw new IllegalStateException("a test's method has a fault: " + methods[m]);
            }
        }
        return tower;
    }

    static void close(String name) {
        System.out.println(name + ": " + checked + " answers, " + wrong + " not as due");
        if (wrong > 0) {
            System.exit(1);
        }
    }
}
