import java.io.IOException;
import java.nio.file.Files;
import java.nio.file.Path;
import java.util.function.IntSupplier;

/** Compares answers with those that are due, and puts texts on a tower's tape. */
final class Check {
    /** What an answer is written as, when the call throws. */
    static final String BAD_ARGUMENT = "throws.IllegalArgumentException";
    static final String BAD_INDEX = "throws.IndexOutOfBoundsException";
    static final String NOTHING = "throws.NoSuchElementException";

    private static int checked = 0;
    private static int wrong = 0;
    private static String said = "";

    private Check() {
    }

    /** The exception's exact class counts: no class below the one that is due. */
    static String answer(IntSupplier call) {
        try {
            return Integer.toString(call.getAsInt());
        } catch (RuntimeException e) {
            return "throws." + e.getClass().getSimpleName();
        }
    }

    /** The answers from here on are about this sentence, which must stand so in the document. */
    static void says(String sentence) {
        said = "";
        due("the document says: " + sentence, true, document().contains(sentence));
        said = "[" + sentence + "] ";
    }

    private static String document() {
        try {
            return Files.readString(Path.of("../shared/DOC.md"));
        } catch (IOException e) {
            return "";
        }
    }

    /** A test that throws is one answer not as due, and does not keep the others from their turn. */
    static void each(Runnable... tests) {
        for (Runnable test : tests) {
            try {
                test.run();
            } catch (RuntimeException e) {
                due("a test", "throws nothing", "throws " + e);
            }
        }
    }

    static void due(String what, String want, IntSupplier call) {
        due(what, want, answer(call));
    }

    static void due(String what, String want, String got) {
        checked++;
        if (!got.equals(want)) {
            wrong++;
            System.out.println(said + what + " answered " + got + ", due is " + want);
        }
    }

    static void due(String what, int want, IntSupplier call) {
        due(what, Integer.toString(want), call);
    }

    static void due(String what, boolean want, boolean got) {
        due(what, want ? 1 : 0, () -> got ? 1 : 0);
    }

    /** Puts this text alone on the tape. */
    static void tape(BellTower tower, String text) {
        tower.end(0);
        append(tower, text);
    }

    static void append(BellTower tower, String text) {
        int before = tower.count(2);
        for (int at = 0; at < text.length(); at += 20) {
            feed(tower, text, at);
        }
        tower.end(before + text.length());
    }

    /** Twenty bytes of the text; zeros behind its end. */
    static void feed(BellTower tower, String text, int at) {
        tower.feed(word(text, at), word(text, at + 4), word(text, at + 8), word(text, at + 12), word(text, at + 16));
    }

    static int word(String text, int at) {
        int word = 0;
        for (int i = at; i < at + 4; i++) {
            word = word << 8 | (i < text.length() ? text.charAt(i) & 255 : 0);
        }
        return word;
    }

    static int method(BellTower tower, int m, String text) {
        tape(tower, text);
        return tower.method(m);
    }

    static int compose(BellTower tower, String text) {
        tape(tower, text);
        return tower.compose();
    }

    static int music(BellTower tower, String text) {
        tape(tower, text);
        return tower.music();
    }

    static BellTower tower(int bells, String... methods) {
        BellTower tower = new BellTower();
        tower.stage(bells);
        for (int m = 0; m < methods.length; m++) {
            if (method(tower, m, methods[m]) < 0) {
                throw new IllegalStateException("a test's method has a fault: " + methods[m]);
            }
        }
        return tower;
    }

    static void methodFault(int bells, String text, int place, int kind) {
        BellTower t = tower(bells);
        due("method '" + text + "' of " + bells, -1 - place, () -> method(t, 0, text));
        due("its kind", kind, t::fault);
        due("the tape is empty", 0, () -> t.count(2));
        due("it was not told", 0, () -> t.count(1));
    }

    static void composeFault(BellTower t, String text, int place, int kind) {
        int leads = t.touch(0);
        due("compose '" + text + "'", -1 - place, () -> compose(t, text));
        due("its kind", kind, t::fault);
        due("the tape is empty", 0, () -> t.count(2));
        due("the composition stays", leads, () -> t.touch(0));
    }

    /** All that a tower answers without changing, but for most rows: some 60 calls. */
    static String state(BellTower t) {
        StringBuilder state = new StringBuilder();
        state.append("fault ").append(t.fault()).append(" counts");
        for (int what = 0; what < 4; what++) {
            state.append(' ').append(t.count(what));
        }
        state.append(" touch");
        for (int what = 0; what < 11; what++) {
            state.append(' ').append(t.touch(what));
        }
        for (int i = 0; i < t.touch(0) && i < 5; i++) {
            state.append(" lead");
            for (int what = 0; what < 4; what++) {
                state.append(' ').append(t.called(i, what));
            }
        }
        for (int m = 0; m < 6; m++) {
            state.append(" method");
            for (int call = 0; call < 3; call++) {
                int asked = m;
                int as = call;
                state.append(' ').append(answer(() -> t.head(asked, as)));
            }
        }
        return state.toString();
    }

    static void close(String name) {
        System.out.println(name + ": " + checked + " answers, " + wrong + " not as due");
        if (wrong > 0) {
            System.exit(1);
        }
    }
}
