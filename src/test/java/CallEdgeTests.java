import java.util.function.ToIntFunction;

/** The boundary cases that the document's promises name: a test for each sentence that names one. */
public final class CallEdgeTests {
    private static final String MINIMUS = "&x14x14,12;14;1234";
    private static final String BOB_MINOR = "&x16x16x16,12;14;1234";
    private static final String MAJOR = "&x38x14x1258x36x14x58x16x78,12;14;1234";
    private static final String LONG_MAJOR = "x18".repeat(32) + ";x;12";
    private static final int LOWEST = Integer.MIN_VALUE;
    private static final int HIGHEST = Integer.MAX_VALUE;

    public static void main(String[] args) {
        Check.each(
            CallEdgeTests::throwsChangeNothing, CallEdgeTests::newObject, CallEdgeTests::feedBehind,
            CallEdgeTests::feedHighestFirst, CallEdgeTests::feedHowMany, CallEdgeTests::feedTooMany,
            CallEdgeTests::endFirstBytes, CallEdgeTests::endRefused, CallEdgeTests::stageTaken,
            CallEdgeTests::stageSame, CallEdgeTests::stageRefused, CallEdgeTests::methodLetters,
            CallEdgeTests::methodChanges, CallEdgeTests::methodFault, CallEdgeTests::methodRefused,
            CallEdgeTests::composeLeads, CallEdgeTests::composeFault, CallEdgeTests::faultLatest,
            CallEdgeTests::faultWithout, CallEdgeTests::faultOfThrowing, CallEdgeTests::leadRows,
            CallEdgeTests::leadFollowing, CallEdgeTests::leadRefused, CallEdgeTests::besideTheLetters,
            CallEdgeTests::headCalls, CallEdgeTests::headRefused, CallEdgeTests::courseLeads,
            CallEdgeTests::linePlaces, CallEdgeTests::lineAgain, CallEdgeTests::lineRefused,
            CallEdgeTests::falseHeadsRefused, CallEdgeTests::falseHeadWithout, CallEdgeTests::touchEmpty,
            CallEdgeTests::touchRepeats, CallEdgeTests::touchEnds, CallEdgeTests::touchCounts,
            CallEdgeTests::touchOther, CallEdgeTests::calledLeads, CallEdgeTests::calledRefused,
            CallEdgeTests::rowRefused, CallEdgeTests::musicTape, CallEdgeTests::musicRows, CallEdgeTests::wholeRung,
            CallEdgeTests::wholeTooLong, CallEdgeTests::findFound, CallEdgeTests::findNothingLeft,
            CallEdgeTests::findLooks, CallEdgeTests::findRefused, CallEdgeTests::countFirstAndMost,
            CallEdgeTests::countOther, CallEdgeTests::lastCalls);
        Check.close("CallEdgeTests");
    }

    /** Has something of all that a call might change; "pbp" is on the tape. */
    private static BellTower full() {
        BellTower t = Check.tower(6, BOB_MINOR, "x16;x;x");
        t.find(0, 4, 3000);
        Check.compose(t, "pbBs");
        Check.method(t, 2, "13;x;x");
        Check.tape(t, "pbp");
        return t;
    }

    private static void due(String what, int want, int got) {
        Check.due(what, want, () -> got);
    }

    private static void tapeIsFull(BellTower t) {
        due("bytes of the tape", 3, t.count(2));
        due("they tell three leads", 3, t.compose());
        due("the second is bob", 1, t.called(1, 2));
    }

    private static void refused(String what, String exception, ToIntFunction<BellTower> call) {
        BellTower t = full();
        String before = Check.state(t);
        Check.due(what, exception, () -> call.applyAsInt(t));
        Check.due("what stands behind " + what, before, Check.state(t));
        tapeIsFull(t);
    }

    /** All stays but for the tape, which is empty, and the kind of the latest fault. */
    private static void keepsAllButTape(BellTower t, String before, int kind) {
        due("its kind", kind, t.fault());
        due("the tape is empty", 0, t.count(2));
        Check.append(t, "pbp");
        String rest = before.substring(before.indexOf(" counts"));
        String after = Check.state(t);
        Check.due("all else", rest, after.substring(after.indexOf(" counts")));
    }

    private static void throwsChangeNothing() {
        Check.says("A call that throws changes nothing.");
        refused("method(6)", Check.BAD_INDEX, t -> t.method(6));
        refused("lead(2, 0)", Check.NOTHING, t -> t.lead(2, 0));
        refused("head(0, 3)", Check.NOTHING, t -> t.head(0, 3));
        refused("course(2)", Check.NOTHING, t -> t.course(2));
        refused("line(0, 7, 0)", Check.NOTHING, t -> t.line(0, 7, 0));
        refused("falseHeads(0, 2)", Check.NOTHING, t -> t.falseHeads(0, 2));
        refused("falseHead(2, 0, 0)", Check.NOTHING, t -> t.falseHead(2, 0, 0));
        refused("called(3, 0)", Check.NOTHING, t -> t.called(3, 0));
        refused("row(26)", Check.NOTHING, t -> t.row(26));
        refused("find(2, 1, 1)", Check.NOTHING, t -> t.find(2, 1, 1));
        refused("find(0, 0, 1)", Check.BAD_ARGUMENT, t -> t.find(0, 0, 1));
    }

    private static void newObject() {
        Check.says("STAGE 6, no METHODS, an empty COMPOSITION (0 LEADS) and tape.");
        BellTower t = new BellTower();
        due("stage", 6, t.count(0));
        due("methods", 0, t.count(1));
        due("tape", 0, t.count(2));
        due("leads", 0, t.touch(0));
        due("rows", 0, t.touch(1));
        for (int m = 0; m < 6; m++) {
            int asked = m;
            Check.due("method " + m, Check.NOTHING, () -> t.lead(asked, 0));
        }
        Check.due("lead 0", Check.NOTHING, () -> t.called(0, 0));
        Check.due("row 0", Check.NOTHING, () -> t.row(0));
        due("an empty tape is no method", -1, t.method(0));
        due("and no composition", -1, t.compose());
        due("and no pattern", -1, t.music());
    }

    private static void feedBehind() {
        Check.says("Twenty bytes come behind the tape");
        BellTower t = Check.tower(6, BOB_MINOR);
        t.feed(0x70707070, 0x70707070, 0x70707070, 0x70707070, 0x70707070);
        t.end(3);
        t.feed(0x62626262, 0x62626262, 0x62626262, 0x62626262, 0x62626262);
        due("twenty-three", 23, t.compose());
        due("twenty of them behind", 20, t.touch(8));
        due("the third is plain", 0, t.called(2, 2));
        due("the fourth is bob", 1, t.called(3, 2));
        due("the last is bob", 1, t.called(22, 2));
    }

    private static void feedHighestFirst() {
        Check.says("of each number the highest first");
        for (int at = 0; at < 20; at++) {
            int[] numbers = {0x20202020, 0x20202020, 0x20202020, 0x20202020, 0x20202020};
            numbers[at / 4] |= 0xff << 24 >>> 8 * (at % 4);
            BellTower t = new BellTower();
            due("fed " + at, 20, t.feed(numbers[0], numbers[1], numbers[2], numbers[3], numbers[4]));
            due("the one stray byte is byte " + at, -1 - at, t.method(0));
        }
        BellTower t = Check.tower(6, BOB_MINOR);
        t.feed(0x32706273, 0x20202020, 0x0a0a0a0a, 0x62207320, 0x70a0a0a0);
        t.end(17);
        due("2pbs b s p", 7, t.compose());
        int[] calls = {0, 0, 1, 2, 1, 2, 0};
        for (int i = 0; i < calls.length; i++) {
            due("call " + i, calls[i], t.called(i, 2));
        }
    }

    private static void feedHowMany() {
        Check.says("the highest first: how many it has;");
        BellTower t = new BellTower();
        due("twenty", 20, t.feed(LOWEST, HIGHEST, -1, 0, 1));
        t.end(1);
        due("twenty-one", 21, t.feed(0, 0, 0, 0, 0));
        t.end(0);
        due("twenty again", 20, t.feed(0, 0, 0, 0, 0));
    }

    private static BellTower fed(int bytes) {
        BellTower t = Check.tower(6, BOB_MINOR);
        for (int i = 0; i < 25; i++) {
            t.feed(0x70707070, 0x70707070, 0x70707070, 0x70707070, 0x70707070);
        }
        t.end(bytes);
        return t;
    }

    private static void feedTooMany() {
        Check.says("NONE, and none come, if it would have more than 500.");
        due("500", 500, fed(480).feed(0, 0, 0, 0, 0));
        for (int bytes : new int[] {481, 499, 500}) {
            BellTower t = fed(bytes);
            due("more than 500", -1, t.feed(0, 0, 0, 0, 0));
            due("none came", bytes, t.count(2));
            due("none of them stands there", bytes, t.compose());
        }
        BellTower t = fed(480);
        t.feed(0x62626262, 0x62626262, 0x62626262, 0x62626262, 0x62626262);
        due("500 leads", 500, t.compose());
        due("byte 499", 1, t.called(499, 2));
        due("byte 479", 0, t.called(479, 2));
    }

    private static void endFirstBytes() {
        Check.says("The tape has its first n bytes alone: true;");
        BellTower t = fed(5);
        Check.due("all of them", true, t.end(5));
        due("five", 5, t.count(2));
        Check.due("one less", true, t.end(4));
        due("four", 4, t.count(2));
        due("the first four", 4, t.compose());
        Check.tape(t, "bp");
        Check.due("one", true, t.end(1));
        due("the first", 1, t.compose());
        due("is bob", 1, t.called(0, 2));
        Check.due("none of none", true, t.end(0));
        Check.tape(t, "bp");
        Check.due("none", true, t.end(0));
        due("no byte", 0, t.count(2));
        Check.due("all 500", true, fed(500).end(500));
    }

    private static void endRefused() {
        Check.says("false, if it has not so many, or n is below 0.");
        BellTower t = full();
        String before = Check.state(t);
        for (int n : new int[] {4, 500, 501, HIGHEST, -1, LOWEST}) {
            Check.due("end " + n, false, t.end(n));
        }
        Check.due("all stays", before, Check.state(t));
        tapeIsFull(t);
        Check.due("1 of none", false, t.end(1));
        Check.due("501 of 500", false, fed(500).end(501));
        BellTower cut = fed(7);
        Check.due("what was cut is gone", false, cut.end(8));
        Check.due("seven are left", true, cut.end(7));
    }

    private static void stageTaken() {
        Check.says("The STAGE is n: true (METHODS are gone, the COMPOSITION is empty;");
        for (int n = 4; n <= 8; n++) {
            BellTower t = full();
            Check.due("stage " + n, true, t.stage(n));
            due("the stage", n, t.count(0));
            due("no methods", 0, t.count(1));
            Check.due("no A", Check.NOTHING, () -> t.lead(0, 0));
            Check.due("no B", Check.NOTHING, () -> t.course(1));
            due("no leads", 0, t.touch(0));
            due("no rows", 0, t.touch(1));
            due("true", 1, t.touch(2));
            due("no bobs", 0, t.touch(8));
            Check.due("no lead 0", Check.NOTHING, () -> t.called(0, 0));
            due("the looks stay", 40, t.count(3));
            due("the fault stays", 2, t.fault());
            due("the tape stays", 3, t.count(2));
            due("but A was not told", -1, t.compose());
            due("which is a fault", 3, t.fault());
        }
    }

    private static void stageSame() {
        Check.says("the COMPOSITION is empty; also if it was n)");
        BellTower t = full();
        Check.due("6 again", true, t.stage(6));
        due("no methods", 0, t.count(1));
        due("no leads", 0, t.touch(0));
        BellTower fresh = new BellTower();
        Check.due("6 at once", true, fresh.stage(6));
        due("the stage", 6, fresh.count(0));
    }

    private static void stageRefused() {
        Check.says("false if it is not as told.");
        for (int n : new int[] {3, 9, 0, -4, -6, 10, HIGHEST, LOWEST}) {
            BellTower t = full();
            String before = Check.state(t);
            Check.due("stage " + n, false, t.stage(n));
            Check.due("all stays behind stage " + n, before, Check.state(t));
            tapeIsFull(t);
        }
    }

    private static void methodLetters() {
        Check.says("The tape (empty then, with a FAULT, too) is METHOD m (0 is A, and so on):");
        for (int m = 0; m < 6; m++) {
            BellTower t = new BellTower();
            int told = m;
            due("method " + m, 2, Check.method(t, m, "x16;x;x"));
            due("the tape is empty", 0, t.count(2));
            due("one is told", 1, t.count(1));
            due("and can be rung", 1, Check.compose(t, (char) ('A' + m) + "p"));
            due("it is method " + m, m, t.called(0, 1));
            due("a fault", -1, Check.method(t, m, ""));
            due("a fault", -2, Check.method(t, m, "x"));
            due("the tape is empty", 0, t.count(2));
            Check.due("its last row", 241635, () -> t.lead(told, 2));
            Check.due("none is beside it", Check.NOTHING, () -> t.lead(told == 0 ? 5 : told - 1, 0));
        }
    }

    private static void methodChanges() {
        Check.says("how many CHANGES its LEAD has (the COMPOSITION is empty then);");
        int[] methods = {0, 1, 5};
        for (int m : methods) {
            BellTower t = full();
            due("64", 64, Check.method(t, m, "x".repeat(64) + ";x;x"));
            due("methods told", m == 5 ? 3 : 2, t.count(1));
            due("no leads", 0, t.touch(0));
            due("no rows", 0, t.touch(1));
            due("END", 123456, t.touch(5));
            due("no bobs", 0, t.touch(8));
            Check.due("no lead 0", Check.NOTHING, () -> t.called(0, 0));
            due("the looks stay", 40, t.count(3));
        }
        BellTower t = Check.tower(6, BOB_MINOR);
        due("1", 1, Check.method(t, 0, "x;16;12"));
        Check.due("no row is left of what was told ahead", Check.NOTHING, () -> t.lead(0, 2));
        due("its bob", 132546, t.head(0, 1));
        due("its single", 124365, t.head(0, 2));
    }

    private static void methodFault() {
        Check.says("-1 - the place of its FAULT: all stays.");
        String[] texts = {"", "13;x;x", "x".repeat(65) + ";x;x", "x;x;x;", " ".repeat(500), "16.12;x;"};
        int[] due = {-1, -1, -66, -6, -501, -9};
        int[] kinds = {1, 2, 3, 1, 1, 1};
        for (int i = 0; i < texts.length; i++) {
            for (int m : new int[] {0, 2}) {
                BellTower t = full();
                String before = Check.state(t);
                due("method '" + texts[i] + "'", due[i], Check.method(t, m, texts[i]));
                keepsAllButTape(t, before, kinds[i]);
                due("rows of A", 135264, t.lead(0, 12));
                due("rows of the touch", 26, t.touch(1));
            }
        }
    }

    private static void methodRefused() {
        Check.says("IndexOutOfBoundsException: there is no such METHOD.");
        for (int m : new int[] {-1, 6, LOWEST, HIGHEST}) {
            refused("method(" + m + ")", Check.BAD_INDEX, t -> t.method(m));
            BellTower t = new BellTower();
            Check.tape(t, "x16;x;x");
            Check.due("with a good tape, " + m, Check.BAD_INDEX, () -> t.method(m));
            due("which stays", 2, t.method(0));
            Check.due("with an empty tape, " + m, Check.BAD_INDEX, () -> t.method(m));
        }
    }

    private static void composeLeads() {
        Check.says("The tape (empty then, with a FAULT, too) is the COMPOSITION: how many LEADS;");
        BellTower t = full();
        due("1000", 1000, Check.compose(t, "10(99p)10b"));
        due("the tape is empty", 0, t.count(2));
        due("the last", 1, t.called(999, 2));
        due("none", 0, Check.compose(t, "BA"));
        due("no leads", 0, t.touch(0));
        due("no rows", 0, t.touch(1));
        Check.due("no lead 0", Check.NOTHING, () -> t.called(0, 0));
        due("1", 1, Check.compose(t, "s"));
        due("one lead", 1, t.touch(0));
        due("a fault", -2, Check.compose(t, "p!"));
        due("the tape is empty", 0, t.count(2));
        due("an empty tape", -1, t.compose());
        due("the methods stay", 2, t.count(1));
    }

    private static void composeFault() {
        Check.says("-1 - the place of its FAULT: it stays.");
        String[] texts = {"", "p1p", "pC", "((((((", "99(99p)", " ".repeat(500), "p".repeat(491) + "2(99(5p))"};
        int[] due = {-1, -2, -2, -6, -8, -501, -501};
        int[] kinds = {1, 2, 3, 4, 5, 1, 5};
        for (int i = 0; i < texts.length; i++) {
            BellTower t = full();
            String before = Check.state(t);
            due("compose '" + texts[i] + "'", due[i], Check.compose(t, texts[i]));
            keepsAllButTape(t, before, kinds[i]);
            due("the last row of the touch", 316524, t.row(25));
        }
    }

    private static void faultLatest() {
        Check.says("The kind of the FAULT of the latest method() or compose()");
        BellTower t = Check.tower(6, BOB_MINOR);
        String[] methods = {"!", "13", "x".repeat(65) + ";"};
        for (int i = 0; i < methods.length; i++) {
            Check.method(t, 0, methods[i]);
            due("of a method", i + 1, t.fault());
        }
        String[] compositions = {"!", "1p", "C", "((((((p", "99(99p)"};
        for (int i = 0; i < compositions.length; i++) {
            Check.compose(t, compositions[i]);
            due("of a composition", i + 1, t.fault());
        }
        t.find(0, 5, 100);
        due("find is none of them", 5, t.fault());
        Check.music(t, "!");
        due("music is none of them", 5, t.fault());
        t.stage(3);
        t.stage(6);
        due("stage is none of them", 5, t.fault());
        t.feed(0, 0, 0, 0, 0);
        t.end(-1);
        t.end(0);
        due("feed and end are none of them", 5, t.fault());
        t.touch(2);
        t.whole();
        due("no other call is", 5, t.fault());
    }

    private static void faultWithout() {
        Check.says("0 without one and ahead of any.");
        BellTower t = new BellTower();
        due("ahead of any", 0, t.fault());
        Check.music(t, "!");
        t.stage(9);
        due("still", 0, t.fault());
        Check.method(t, 0, "13");
        Check.method(t, 0, "x;x;x");
        due("a method without one", 0, t.fault());
        Check.compose(t, "1");
        Check.compose(t, "p");
        due("a composition without one", 0, t.fault());
        Check.method(t, 0, "13");
        Check.compose(t, "p");
        due("a composition behind a method's", 0, t.fault());
        Check.compose(t, "1");
        Check.method(t, 0, "x;x;x");
        due("a method behind a composition's", 0, t.fault());
    }

    private static void faultOfThrowing() {
        Check.says("the latest method() or compose() that did not throw;");
        BellTower t = new BellTower();
        Check.tape(t, "13");
        Check.due("method(6)", Check.BAD_INDEX, () -> t.method(6));
        due("ahead of any that did not", 0, t.fault());
        Check.method(t, 0, "13");
        Check.tape(t, "x;x;x");
        Check.due("method(-1)", Check.BAD_INDEX, () -> t.method(-1));
        due("behind a fault", 2, t.fault());
        t.method(0);
        Check.tape(t, "13");
        Check.due("method(6)", Check.BAD_INDEX, () -> t.method(6));
        due("behind none", 0, t.fault());
    }

    private static void leadRows() {
        Check.says("ROW k (0 .. how many CHANGES there are) of METHOD m from ROUNDS");
        BellTower t = Check.tower(6, BOB_MINOR, "x;x;x");
        due("row 0", 123456, t.lead(0, 0));
        due("row 1", 214365, t.lead(0, 1));
        due("row 11", 132546, t.lead(0, 11));
        due("row 12", 135264, t.lead(0, 12));
        due("row 0 of one change", 123456, t.lead(1, 0));
        due("row 1 of one change", 214365, t.lead(1, 1));
        for (int k : new int[] {-1, 13, LOWEST, HIGHEST}) {
            Check.due("row " + k, Check.NOTHING, () -> t.lead(0, k));
        }
        Check.due("row 2 of one change", Check.NOTHING, () -> t.lead(1, 2));
    }

    private static void leadFollowing() {
        Check.says("plain (the last one: what follows).");
        BellTower t = Check.tower(4, "x;14;12", MINIMUS);
        due("of one change", 2143, t.lead(0, 1));
        due("of eight", 1342, t.lead(1, 8));
        for (int m = 0; m < 2; m++) {
            due("as the plain head", t.head(m, 0), t.lead(m, m == 0 ? 1 : 8));
        }
    }

    private static void leadRefused() {
        Check.says("NoSuchElementException: METHOD m was not told, or there is none such (likewise below).");
        for (int m : new int[] {2, 5, 6, -1, LOWEST, HIGHEST}) {
            refused("lead(" + m + ", 0)", Check.NOTHING, t -> t.lead(m, 0));
            refused("lead(" + m + ", -1)", Check.NOTHING, t -> t.lead(m, -1));
            refused("head(" + m + ", 0)", Check.NOTHING, t -> t.head(m, 0));
            refused("course(" + m + ")", Check.NOTHING, t -> t.course(m));
            refused("line(" + m + ", 1, 0)", Check.NOTHING, t -> t.line(m, 1, 0));
            refused("falseHeads(" + m + ", 0)", Check.NOTHING, t -> t.falseHeads(m, 0));
            refused("falseHeads(0, " + m + ")", Check.NOTHING, t -> t.falseHeads(0, m));
            refused("falseHead(" + m + ", 0, 0)", Check.NOTHING, t -> t.falseHead(m, 0, 0));
            refused("falseHead(0, " + m + ", 0)", Check.NOTHING, t -> t.falseHead(0, m, 0));
            refused("find(" + m + ", 1, 1)", Check.NOTHING, t -> t.find(m, 1, 1));
        }
        for (int k : new int[] {-1, 13, LOWEST, HIGHEST}) {
            refused("lead(0, " + k + ")", Check.NOTHING, t -> t.lead(0, k));
        }
    }

    /** Those beside A and F are none, however many were told. */
    private static void besideTheLetters() {
        Check.says("METHODS A .. F.");
        BellTower t = Check.tower(6, "x;x;x", "x;x;x", "x;x;x", "x;x;x", "x;x;x", "x16;x;x");
        due("six were told", 6, t.count(1));
        due("F", 241635, t.lead(5, 2));
        for (int m : new int[] {-1, 6}) {
            Check.due("lead 0 of " + m, Check.NOTHING, () -> t.lead(m, 0));
            Check.due("one lead of " + m, Check.NOTHING, () -> t.find(m, 1, 1));
            Check.tape(t, "x;x;x");
            Check.due("method " + m, Check.BAD_INDEX, () -> t.method(m));
        }
        due("G is no letter", -2, Check.compose(t, "FG"));
        due("but a stray byte", 1, t.fault());
    }

    private static void headCalls() {
        Check.says("CALLED plain (0), bob (1), single (2).");
        BellTower t = Check.tower(6, BOB_MINOR, "x;16;12");
        int[][] due = {{135264, 123564, 132564}, {214365, 132546, 124365}};
        for (int m = 0; m < 2; m++) {
            for (int call = 0; call < 3; call++) {
                due("head " + m + " " + call, due[m][call], t.head(m, call));
            }
        }
    }

    private static void headRefused() {
        Check.says("What follows a LEAD of METHOD m from ROUNDS, CALLED plain (0), bob (1), single (2).");
        for (int call : new int[] {-1, 3, LOWEST, HIGHEST}) {
            refused("head(0, " + call + ")", Check.NOTHING, t -> t.head(0, call));
        }
    }

    private static void courseLeads() {
        Check.says("How many plain LEADS of METHOD m bring ROUNDS again.");
        BellTower t = Check.tower(8, "x.x;18;18", "x;18;18", "38.14;x;x", "x.18;x;x", "12345678;x;x");
        int[] due = {1, 2, 15, 8, 1};
        for (int m = 0; m < due.length; m++) {
            due("course of " + m, due[m], t.course(m));
        }
        due("12 of 7", 12, Check.tower(7, "3.147;1;1").course(0));
    }

    private static void linePlaces() {
        Check.says("The PLACE of a bell in ROW k of a plain course of METHOD m");
        BellTower t = Check.tower(4, MINIMUS);
        int[][] rows = {{1, 2, 3, 4}, {2, 1, 4, 3}, {3, 1, 4, 2}};
        for (int bell = 1; bell <= 4; bell++) {
            due("bell in row 0", rows[0][bell - 1], t.line(0, bell, 0));
            due("bell in row 1", rows[1][bell - 1], t.line(0, bell, 1));
        }
        due("1 in row 2, 2413", 3, t.line(0, 1, 2));
        due("2 in row 2", 1, t.line(0, 2, 2));
        due("3 in row 2", 4, t.line(0, 3, 2));
        due("4 in row 2", 2, t.line(0, 4, 2));
        due("2 in row 8, 1342", 4, t.line(0, 2, 8));
        due("3 in row 8", 2, t.line(0, 3, 8));
        due("4 in row 16, 1423", 2, t.line(0, 4, 16));
        due("2 in row 16", 3, t.line(0, 2, 16));
    }

    private static void lineAgain() {
        Check.says("(k from 0 on, as far as one goes, over again and again)");
        BellTower t = Check.tower(4, MINIMUS, "x.x;14;14", "x;14;14");
        due("the last row of the course, 1243", 2, t.line(0, 2, 23));
        due("and there", 4, t.line(0, 3, 23));
        due("behind it", 2, t.line(0, 2, 24));
        due("and one more", 1, t.line(0, 2, 25));
        due("the fourth lead is the first", 2, t.line(0, 2, 24 * 1000000));
        due("highest k of a course of 24, row 7: 1324", 3, t.line(0, 2, HIGHEST));
        due("one less, row 6: 3142", 2, t.line(0, 1, HIGHEST - 1));
        due("of a course of one lead", 2, t.line(1, 1, HIGHEST));
        due("one less", 1, t.line(1, 1, HIGHEST - 1));
        due("of leads of one row", 2, t.line(2, 1, HIGHEST));
        BellTower eight = Check.tower(8, "38.14;x;x");
        due("highest k of a course of 30", eight.line(0, 5, 7), eight.line(0, 5, HIGHEST));
        due("row 29", eight.line(0, 6, 29), eight.line(0, 6, 59));
        for (int bell = 1; bell <= 8; bell++) {
            due("row 30 is rounds", bell, eight.line(0, bell, 30));
        }
    }

    private static void lineRefused() {
        Check.says("The PLACE of a bell in ROW k");
        for (int bell : new int[] {0, 7, -1, LOWEST, HIGHEST}) {
            refused("line(0, " + bell + ", 0)", Check.NOTHING, t -> t.line(0, bell, 0));
        }
        for (int k : new int[] {-1, -12, LOWEST}) {
            refused("line(0, 1, " + k + ")", Check.NOTHING, t -> t.line(0, 1, k));
        }
        BellTower four = Check.tower(4, "x;x;x");
        due("bell 4 of 4", 4, four.line(0, 4, 0));
        Check.due("bell 5 of 4", Check.NOTHING, () -> four.line(0, 5, 0));
        BellTower eight = Check.tower(8, "x;x;x");
        due("bell 8 of 8", 8, eight.line(0, 8, 0));
        Check.due("bell 9 of 8", Check.NOTHING, () -> eight.line(0, 9, 0));
    }

    private static void falseHeadsRefused() {
        Check.says("How many FALSE HEADS METHODS m and l have.");
        BellTower t = Check.tower(4, MINIMUS, "x;x;x");
        due("of a method and itself", 8, t.falseHeads(0, 0));
        due("of two", 8, t.falseHeads(0, 1));
        due("at least rounds", 1, t.falseHeads(1, 1));
        Check.due("m not told", Check.NOTHING, () -> t.falseHeads(2, 0));
        Check.due("l not told", Check.NOTHING, () -> t.falseHeads(0, 2));
        Check.due("neither told", Check.NOTHING, () -> t.falseHeads(-1, 6));
        Check.compose(t, "2b");
        due("they ask nothing of the touch", 8, t.falseHeads(0, 0));
        due("nor change it", 0, t.touch(2));
    }

    private static void falseHeadWithout() {
        Check.says("FALSE HEAD k of METHODS m and l; NONE without it.");
        BellTower t = Check.tower(4, MINIMUS);
        due("the first", 1234, t.falseHead(0, 0, 0));
        due("the last", 4321, t.falseHead(0, 0, 7));
        for (int k : new int[] {-1, 8, 24, LOWEST, HIGHEST}) {
            due("false head " + k, -1, t.falseHead(0, 0, k));
            Check.due("of a method that was not told, " + k, Check.NOTHING, () -> t.falseHead(0, 1, k));
        }
    }

    private static void touchEmpty() {
        Check.says("Of the TOUCH: 0 LEADS, 1 ROWS, 2 whether it is TRUE");
        int[] due = {0, 0, 1, -1, -1, 123456, 1, 1, 0, 0, 0};
        BellTower empty = new BellTower();
        BellTower letters = full();
        Check.compose(letters, "2(BA)B");
        for (int what = 0; what < due.length; what++) {
            due("touch " + what + " of a new object", due[what], empty.touch(what));
            due("touch " + what + " of letters alone", due[what], letters.touch(what));
        }
        int[] one = {1, 12, 1, -1, -1, 132564, 0, 6, 0, 1, 0};
        Check.compose(letters, "s");
        for (int what = 0; what < one.length; what++) {
            due("touch " + what + " of one lead", one[what], letters.touch(what));
        }
    }

    private static void touchRepeats() {
        Check.says("3 the number of the first ROW that is like one ahead of it (NONE), 4 the number of that one (NONE)");
        BellTower t = Check.tower(4, "x;14;1234", MINIMUS, "1234.x;x;x");
        String[] texts = {"2p", "3p", "s", "2s", "3s", "pss", "B4p", "B3p", "Cp", "ps", "psp", "bbbb"};
        int[] first = {-1, 2, -1, 1, 1, 2, 24, -1, 1, -1, 2, 2};
        int[] like = {-1, 0, -1, 0, 0, 1, 0, -1, 0, -1, 1, 0};
        for (int i = 0; i < texts.length; i++) {
            Check.compose(t, texts[i]);
            due("first of " + texts[i], first[i], t.touch(3));
            due("like " + texts[i], like[i], t.touch(4));
            due("true " + texts[i], first[i] < 0 ? 1 : 0, t.touch(2));
        }
        BellTower eight = Check.tower(8, LONG_MAJOR);
        Check.compose(eight, "p");
        due("row 16 of plain hunt", 16, eight.touch(3));
        due("is rounds", 0, eight.touch(4));
    }

    private static void touchEnds() {
        Check.says("5 its END, 6 whether it is ROUND, 7 its ORDER");
        BellTower t = Check.tower(8, "38.14;x;x", "12345678;x;x");
        String[] texts = {"B", "Bp", "p", "15p", "14p", "16p", "B99p"};
        int[] ends = {12345678, 12345678, 23157486, 12345678, 31264857, 23157486, 12345678};
        int[] orders = {1, 1, 15, 1, 15, 15, 1};
        for (int i = 0; i < texts.length; i++) {
            Check.compose(t, texts[i]);
            due("END of " + texts[i], ends[i], t.touch(5));
            due("whether " + texts[i] + " is round", orders[i] == 1 ? 1 : 0, t.touch(6));
            due("order of " + texts[i], orders[i], t.touch(7));
        }
    }

    private static void touchCounts() {
        Check.says("8 how many bobs, 9 singles, 10 changes of METHOD from one LEAD to the next.");
        BellTower t = Check.tower(6, "x;x;x", "x;x;x", "x;x;x");
        String[] texts = {"p", "b", "s", "pBp", "pBAp", "pBCp", "BpCp", "BpB", "2(pBs)", "10(99b)10s",
            "4(25(2(AbBbAsBp)Ab))"};
        int[] bobs = {0, 1, 0, 0, 0, 0, 0, 0, 0, 990, 500};
        int[] singles = {0, 0, 1, 0, 0, 0, 0, 0, 2, 10, 200};
        int[] changes = {0, 0, 0, 1, 0, 1, 1, 0, 1, 0, 800};
        for (int i = 0; i < texts.length; i++) {
            Check.compose(t, texts[i]);
            due("bobs of " + texts[i], bobs[i], t.touch(8));
            due("singles of " + texts[i], singles[i], t.touch(9));
            due("changes of " + texts[i], changes[i], t.touch(10));
        }
    }

    private static void touchOther() {
        Check.says("NONE for another what.");
        BellTower t = full();
        for (int what : new int[] {-1, 11, 12, LOWEST, HIGHEST}) {
            due("touch " + what, -1, t.touch(what));
        }
        due("10 is none of them", 1, t.touch(10));
        due("0 is none of them", 3, t.touch(0));
    }

    private static void calledLeads() {
        Check.says("LEAD i of the TOUCH: 0 its HEAD, 1 its METHOD, 2 how it is CALLED, 3 the number of its first ROW.");
        BellTower t = full();
        int[][] due = {{123456, 0, 0, 0}, {135264, 0, 1, 12}, {135642, 1, 2, 24}};
        for (int i = 0; i < due.length; i++) {
            for (int what = 0; what < 4; what++) {
                due("lead " + i + " " + what, due[i][what], t.called(i, what));
            }
        }
        BellTower many = Check.tower(8, LONG_MAJOR);
        Check.compose(many, "10(99p)9ps");
        due("the last lead's head", 12345678, many.called(999, 0));
        due("its method", 0, many.called(999, 1));
        due("its call", 2, many.called(999, 2));
        due("its first row", 999 * 64, many.called(999, 3));
        Check.due("no lead 1000", Check.NOTHING, () -> many.called(1000, 0));
    }

    private static void calledRefused() {
        Check.says("NoSuchElementException: there is none such, or another what.");
        for (int i : new int[] {-1, 3, 1000, LOWEST, HIGHEST}) {
            refused("called(" + i + ", 0)", Check.NOTHING, t -> t.called(i, 0));
        }
        for (int what : new int[] {-1, 4, LOWEST, HIGHEST}) {
            refused("called(0, " + what + ")", Check.NOTHING, t -> t.called(0, what));
        }
        BellTower empty = new BellTower();
        Check.due("of none", Check.NOTHING, () -> empty.called(0, 3));
    }

    private static void rowRefused() {
        Check.says("ROW i of the TOUCH. NoSuchElementException: there is none such.");
        BellTower t = full();
        due("the first", 123456, t.row(0));
        due("the last of a lead", 132546, t.row(11));
        due("the first of the next", 135264, t.row(12));
        due("the last", 316524, t.row(25));
        for (int i : new int[] {-1, 26, LOWEST, HIGHEST}) {
            refused("row(" + i + ")", Check.NOTHING, tower -> tower.row(i));
        }
        BellTower empty = new BellTower();
        Check.due("of none", Check.NOTHING, () -> empty.row(0));
        BellTower many = Check.tower(8, LONG_MAJOR);
        Check.compose(many, "10(99p)10p");
        due("64000 rows", 64000, many.touch(1));
        due("the last of them", 13254768, many.row(63999));
        Check.due("row 64000", Check.NOTHING, () -> many.row(64000));
    }

    private static void musicTape() {
        Check.says("The tape (empty then) is a pattern: how many ROWS of the TOUCH are so; NONE, if it is none.");
        BellTower t = full();
        due("no pattern", -1, t.music());
        due("the tape is empty then, too", 0, t.count(2));
        due("the empty tape", -1, t.music());
        due("a pattern", 26, Check.music(t, "*"));
        due("the tape is empty", 0, t.count(2));
        due("none so", 0, Check.music(t, "612345*"));
        due("the composition stays", 3, t.touch(0));
        due("the fault stays", 2, t.fault());
    }

    private static void musicRows() {
        Check.says("how many ROWS of the TOUCH are so;");
        BellTower t = Check.tower(4, "x;14;1234");
        Check.compose(t, "2p");
        due("the END is none of them", 1, Check.music(t, "1234"));
        Check.compose(t, "3p");
        due("a row twice counts twice", 2, Check.music(t, "1234"));
        Check.compose(t, "A");
        due("no rows", 0, Check.music(t, "1234"));
        BellTower many = Check.tower(8, LONG_MAJOR);
        Check.compose(many, "10(99p)10p");
        due("all 64000", 64000, Check.music(many, "*"));
        due("rounds", 4000, Check.music(many, "12345678"));
        BellTower bob = Check.tower(4, "x;14;1234");
        Check.compose(bob, "bp");
        due("behind a bob", 1, Check.music(bob, "1324"));
        due("not the plain row", 0, Check.music(bob, "2143"));
    }

    private static void wholeRung() {
        Check.says("Whether the TOUCH, rung as many times as its ORDER, each from the END of the one ahead, is TRUE;");
        BellTower t = Check.tower(4, MINIMUS, "x.14;x;1234");
        String[] texts = {"p", "2p", "3p", "4p", "b", "s", "Bp", "Bs", "B2p", "A"};
        int[] due = {1, 0, 1, 0, 1, 0, 1, 0, 1, 1};
        for (int i = 0; i < texts.length; i++) {
            Check.compose(t, texts[i]);
            due("whole of " + texts[i], due[i], t.whole());
        }
        due("whole of none", 1, new BellTower().whole());
        Check.compose(t, "s");
        due("it is true once", 1, t.touch(2));
        due("of order 2", 2, t.touch(7));
    }

    private static void wholeTooLong() {
        Check.says("if that is more than 1000 LEADS, NONE.");
        BellTower two = Check.tower(6, "x;123456;x");
        String[] texts = {"5(99p)4p", "5(99p)3pb", "5(99p)4pb", "5(99p)5p", "5(99p)6p", "5(99p)5pb", "10(99p)10p",
            "10(99p)9pb"};
        int[] leads = {499, 499, 500, 500, 501, 501, 1000, 1000};
        int[] due = {0, 0, 0, 0, -1, 0, 0, -1};
        for (int i = 0; i < texts.length; i++) {
            due("leads", leads[i], Check.compose(two, texts[i]));
            due("whole of " + texts[i], due[i], two.whole());
        }
        BellTower five = Check.tower(6, BOB_MINOR);
        Check.compose(five, "2(99p)p");
        due("199 times 5", 0, five.whole());
        Check.compose(five, "2(99p)3p");
        due("201 times 5", -1, five.whole());
        Check.compose(five, "99p98p3b");
        due("200 times 5", 0, five.whole());
        Check.compose(five, "99p99p3b");
        due("201 times 5, with bobs", -1, five.whole());
    }

    private static void findFound() {
        Check.says("0: FOUND, and the COMPOSITION is these LEADS;");
        BellTower t = full();
        due("five of A", 0, t.find(0, 5, 5));
        due("five leads", 5, t.touch(0));
        due("of A", 0, t.called(4, 1));
        due("60 rows", 60, t.touch(1));
        due("true", 1, t.touch(2));
        due("round", 1, t.touch(6));
        due("no bobs of the one ahead", 0, t.touch(8));
        due("no singles of it", 0, t.touch(9));
        due("the methods stay", 2, t.count(1));
        due("the fault stays", 2, t.fault());
        due("of B", 0, t.find(1, 6, 6));
        due("six leads", 6, t.touch(0));
        due("each of B", 1, t.called(0, 1) * t.called(5, 1));
        due("the last lead's first row", 10, t.called(5, 3));
        due("the tape stays", 3, t.count(2));
        BellTower first = Check.tower(6, BOB_MINOR);
        due("ahead of any compose", 0, first.find(0, 3, 3000));
        due("three bobs", 3, first.touch(8));
    }

    private static void findNothingLeft() {
        Check.says("1: nothing was left;");
        BellTower t = full();
        String before = Check.state(t);
        due("four leads of A", 1, t.find(0, 4, 3000));
        Check.due("the composition stays", before, Check.state(t));
        due("with just so many looks", 1, t.find(0, 4, 40));
        Check.due("it stays still", before, Check.state(t));
        tapeIsFull(t);
    }

    private static void findLooks() {
        Check.says("2: LOOKS were not enough.");
        BellTower t = full();
        String before = Check.state(t);
        due("one look less", 2, t.find(0, 4, 39));
        due("looks", 39, t.count(3));
        Check.due("all else stays", before, Check.state(t).replace("counts 6 2 3 39", "counts 6 2 3 40"));
        due("one look for five leads", 2, t.find(0, 5, 1));
        due("one look", 1, t.count(3));
        due("three leads still", 3, t.touch(0));
        tapeIsFull(t);
    }

    private static void findRefused() {
        Check.says("(m 1 to 200, looks 1 to 3000: IllegalArgumentException.)");
        for (int m : new int[] {0, -1, 201, LOWEST, HIGHEST}) {
            refused("find(0, " + m + ", 1)", Check.BAD_ARGUMENT, t -> t.find(0, m, 1));
            refused("find(2, " + m + ", 3000)", Check.BAD_ARGUMENT, t -> t.find(2, m, 3000));
        }
        for (int looks : new int[] {0, -1, 3001, LOWEST, HIGHEST}) {
            refused("find(0, 1, " + looks + ")", Check.BAD_ARGUMENT, t -> t.find(0, 1, looks));
            refused("find(-1, 200, " + looks + ")", Check.BAD_ARGUMENT, t -> t.find(-1, 200, looks));
        }
        refused("find(0, 201, 3001)", Check.BAD_ARGUMENT, t -> t.find(0, 201, 3001));
        due("1 and 1", 2, full().find(0, 2, 1));
        due("1 lead", 1, full().find(0, 1, 3000));
        due("200 and 3000", 2, Check.tower(8, MAJOR).find(0, 200, 3000));
        BellTower far = Check.tower(8, "58.16.78;1458;36");
        due("200 leads", 0, far.find(0, 200, 3000));
        due("all of them", 200, far.touch(0));
        due("true", 1, far.touch(2));
        due("round", 1, far.touch(6));
        due("with just so many looks", 0, far.find(0, 200, 276));
        due("with one less", 2, far.find(0, 200, 275));
    }

    private static void countFirstAndMost() {
        Check.says("0 STAGE, 1 METHODS told, 2 bytes of the tape");
        BellTower t = new BellTower();
        int[] first = {6, 0, 0};
        for (int what = 0; what < first.length; what++) {
            due("count " + what + " at first", first[what], t.count(what));
        }
        t.stage(8);
        due("the highest stage", 8, t.count(0));
        for (int m = 5; m >= 0; m--) {
            Check.method(t, m, "x;x;x");
            due("methods told", 6 - m, t.count(1));
        }
        Check.method(t, 5, "x18;x;x");
        due("told again", 6, t.count(1));
        t.stage(4);
        due("the lowest stage", 4, t.count(0));
        due("none is told", 0, t.count(1));
        due("bytes at most", 500, fed(500).count(2));
    }

    private static void countOther() {
        Check.says("3 how many HEADS the latest find() looked at. NONE for another what.");
        BellTower t = new BellTower();
        due("ahead of any find", 0, t.count(3));
        for (int what : new int[] {-1, 4, LOWEST, HIGHEST}) {
            due("count " + what, -1, t.count(what));
        }
        BellTower found = full();
        due("40 looks", 40, found.count(3));
        found.find(0, 5, 3000);
        due("of the latest", 5, found.count(3));
        Check.due("one that throws", Check.BAD_ARGUMENT, () -> found.find(0, 0, 0));
        Check.due("another", Check.NOTHING, () -> found.find(4, 1, 1));
        due("looks at none", 5, found.count(3));
        found.find(0, 5, 2);
        due("looks that were not enough", 2, found.count(3));
    }

    /** Puts the text on an empty tape, and tells how many calls that took. */
    private static int put(BellTower t, String text) {
        int feeds = 0;
        for (int at = 0; at < text.length(); at += 20) {
            Check.feed(t, text, at);
            feeds++;
        }
        t.end(text.length());
        return feeds + 1;
    }

    private static void lastCalls() {
        Check.says("An object is used for at most 512 calls after it has been made;");
        lastOfMany();
        lastOfFinds();
        lastOfCompositions();
        BellTower fed = new BellTower();
        for (int call = 1; call <= 512; call++) {
            due("feed " + call, call > 25 ? -1 : 20 * call, fed.feed(call, call, call, call, call));
        }
    }

    private static void lastOfMany() {
        BellTower t = new BellTower();
        int calls = put(t, BOB_MINOR) + 1;
        due("twelve changes", 12, t.method(0));
        calls += put(t, "p") + 1;
        due("one lead", 1, t.compose());
        while (calls < 512) {
            calls++;
            switch (calls % 7) {
                case 0: due("call " + calls, 1, t.whole()); break;
                case 1: due("call " + calls, 1, t.find(0, 4, 3000)); break;
                case 2: due("call " + calls, -1, t.touch(3)); break;
                case 3: due("call " + calls, 123456, t.falseHead(0, 0, 0)); break;
                case 4: due("call " + calls, 135264, t.touch(5)); break;
                case 5: due("call " + calls, 132546, t.row(11)); break;
                default: due("call " + calls, 5, t.line(0, 1, HIGHEST)); break;
            }
        }
        due("so many calls", 512, calls);
    }

    /** The dearest call, each time with as many looks as may be. */
    private static void lastOfFinds() {
        BellTower t = new BellTower();
        t.stage(8);
        int calls = 1 + put(t, MAJOR) + 1;
        due("32 changes", 32, t.method(0));
        while (calls < 511) {
            calls++;
            due("call " + calls, 2, t.find(0, 200, 3000));
        }
        due("the last call", 0, t.find(0, 7, 7));
    }

    /** The longest touches, each told anew. */
    private static void lastOfCompositions() {
        BellTower t = new BellTower();
        t.stage(8);
        int calls = 1 + put(t, LONG_MAJOR) + 1;
        due("64 changes", 64, t.method(0));
        while (calls < 505) {
            calls += put(t, "10(99p)9ps") + 4;
            due("1000 leads", 1000, t.compose());
            due("the first row that comes again", 16, t.touch(3));
            due("twice as long as may be", -1, t.whole());
            due("the last row", 13254768, t.row(63999));
        }
        Check.due("no more calls than told", true, calls <= 512);
    }
}
