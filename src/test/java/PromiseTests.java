/** Each promise by hand: ordinary inputs, the edges that the document names, and wrong inputs. */
public final class PromiseTests {
    private static final String MINIMUS = "&x14x14,12;14;1234";
    private static final String BOB_MINOR = "&x16x16x16,12;14;1234";
    private static final String CAMBRIDGE_MAJOR = "&x38x14x1258x36x14x58x16x78,12;14;1234";

    public static void main(String[] args) {
        newObject();
        feed();
        feedBytes();
        end();
        stage();
        method();
        methodFaults();
        methodFaultPlaces();
        methodLimits();
        methodChangesState();
        compose();
        composeFaults();
        composeOrder();
        composeLimits();
        fault();
        lead();
        changes();
        head();
        course();
        line();
        falseHeads();
        falseHeadsOfTwo();
        touch();
        touchRepeats();
        touchCounts();
        called();
        row();
        music();
        whole();
        find();
        findLimits();
        findKeeps();
        count();
        throwsChangeNothing();
        Check.close("PromiseTests");
    }

    private static void newObject() {
        BellTower t = new BellTower();
        Check.due("new stage", 6, () -> t.count(0));
        Check.due("new methods", 0, () -> t.count(1));
        Check.due("new tape", 0, () -> t.count(2));
        Check.due("new looks", 0, () -> t.count(3));
        Check.due("new fault", 0, t::fault);
        int[] due = {0, 0, 1, -1, -1, 123456, 1, 1, 0, 0, 0};
        for (int what = 0; what < due.length; what++) {
            int asked = what;
            Check.due("new touch " + what, due[what], () -> t.touch(asked));
        }
        Check.due("new whole", 1, t::whole);
        Check.due("new row", Check.NOTHING, () -> t.row(0));
        Check.due("new called", Check.NOTHING, () -> t.called(0, 0));
    }

    private static void feed() {
        BellTower t = new BellTower();
        for (int i = 1; i <= 25; i++) {
            int due = 20 * i;
            Check.due("feed " + i, due, () -> t.feed(1, 2, 3, 4, 5));
        }
        Check.due("feed over 500", -1, () -> t.feed(1, 2, 3, 4, 5));
        Check.due("none came", 500, () -> t.count(2));
        t.end(481);
        Check.due("feed to 501", -1, () -> t.feed(1, 2, 3, 4, 5));
        Check.due("none came of them", 481, () -> t.count(2));
        t.end(480);
        Check.due("feed to 500", 500, () -> t.feed(1, 2, 3, 4, 5));
    }

    /** The order of the bytes is told by where a fault is. */
    private static void feedBytes() {
        for (int at = 0; at < 20; at++) {
            StringBuilder text = new StringBuilder();
            for (int i = 0; i < 20; i++) {
                text.append(i == at ? '!' : ' ');
            }
            BellTower t = new BellTower();
            Check.append(t, text.toString());
            Check.due("fault at byte " + at, -1 - at, () -> t.method(0));
        }
        BellTower t = Check.tower(6, BOB_MINOR);
        Check.due("a byte above 127", -1, () -> Check.compose(t, "\u00f0"));
        Check.due("a byte 160 is no blank", -1, () -> Check.compose(t, "\u00a0p"));
        Check.due("a byte 255", -2, () -> Check.compose(t, "p\u00ff"));
        Check.due("a byte 255 in a method", -2, () -> Check.method(t, 1, "x\u00ff"));
        Check.due("a byte 0", -2, () -> Check.compose(t, "p\u0000"));
    }

    private static void end() {
        BellTower t = new BellTower();
        Check.due("end 0 of 0", true, t.end(0));
        Check.due("end 1 of 0", false, t.end(1));
        t.feed(0, 0, 0, 0, 0);
        Check.due("end -1", false, t.end(-1));
        Check.due("end 21", false, t.end(21));
        Check.due("end lowest", false, t.end(Integer.MIN_VALUE));
        Check.due("end highest", false, t.end(Integer.MAX_VALUE));
        Check.due("all stay", 20, () -> t.count(2));
        Check.due("end 20", true, t.end(20));
        Check.due("end 7", true, t.end(7));
        Check.due("seven stay", 7, () -> t.count(2));
        Check.due("end 8 of 7", false, t.end(8));
    }

    private static void stage() {
        BellTower t = Check.tower(6, BOB_MINOR);
        Check.compose(t, "pp");
        Check.append(t, "abc");
        for (int n : new int[] {3, 9, 0, -1, Integer.MIN_VALUE, Integer.MAX_VALUE}) {
            Check.due("stage " + n, false, t.stage(n));
        }
        Check.due("the stage stays", 6, () -> t.count(0));
        Check.due("methods stay", 1, () -> t.count(1));
        Check.due("the composition stays", 2, () -> t.touch(0));
        Check.due("the same stage", true, t.stage(6));
        Check.due("methods are gone", 0, () -> t.count(1));
        Check.due("the composition is empty", 0, () -> t.touch(0));
        Check.due("it ends in rounds", 123456, () -> t.touch(5));
        Check.due("the tape stays", 3, () -> t.count(2));
        for (int n = 4; n <= 8; n++) {
            Check.due("stage " + n, true, t.stage(n));
            int due = Integer.parseInt("12345678".substring(0, n));
            Check.due("rounds of " + n, due, () -> t.touch(5));
        }
    }

    private static void method() {
        BellTower t = new BellTower();
        Check.due("Bob Minor", 12, () -> Check.method(t, 0, BOB_MINOR));
        Check.due("no fault", 0, t::fault);
        Check.due("the tape is empty", 0, () -> t.count(2));
        Check.due("one told", 1, () -> t.count(1));
        Check.due("told again", 1, () -> Check.method(t, 0, "x;x;x"));
        Check.due("one told still", 1, () -> t.count(1));
        Check.due("F", 2, () -> Check.method(t, 5, "x16;x;x"));
        Check.due("two told", 2, () -> t.count(1));
        Check.due("blanks", 4, () -> Check.method(t, 1, " \n& x\n16 , + x ;\n16 ; 12 \n"));
        Check.due("one change, back again", 1, () -> Check.method(t, 1, "&x;x;x"));
        Check.due("two changes, back again", 3, () -> Check.method(t, 1, "&x16;x;x"));
        Check.due("blocks", 5, () -> Check.method(t, 1, "x,&x16,+16;x;x"));
        Check.due("dots", 4, () -> Check.method(t, 1, "x.x.16.x;x;x"));
        Check.due("dots between digits", 3, () -> Check.method(t, 1, "16.12.16;x;x"));
        Check.due("no dots round x", 3, () -> Check.method(t, 1, "16x12;x;x"));
        for (int m : new int[] {-1, 6, Integer.MAX_VALUE, Integer.MIN_VALUE}) {
            Check.due("method " + m, Check.BAD_INDEX, () -> t.method(m));
        }
    }

    private static void methodFaults() {
        Check.methodFault(6, "", 0, 1);
        Check.methodFault(6, "  ", 2, 1);
        Check.methodFault(6, "x", 1, 1);
        Check.methodFault(6, "x;x", 3, 1);
        Check.methodFault(6, "x;x;", 4, 1);
        Check.methodFault(6, ";x;x", 0, 1);
        Check.methodFault(6, ",x;x;x", 0, 1);
        Check.methodFault(6, "x,;x;x", 2, 1);
        Check.methodFault(6, "x,,x;x;x", 2, 1);
        Check.methodFault(6, "&;x;x", 1, 1);
        Check.methodFault(6, "&+x;x;x", 1, 1);
        Check.methodFault(6, "x&;x;x", 1, 1);
        Check.methodFault(6, "&.x;x;x", 1, 1);
        Check.methodFault(6, "x.;x;x", 2, 1);
        Check.methodFault(6, "x.,x;x;x", 2, 1);
        Check.methodFault(6, "x;;x", 2, 1);
        Check.methodFault(6, "x;xx;x", 3, 1);
        Check.methodFault(6, "x;x,x;x", 3, 1);
        Check.methodFault(6, "x;x.;x", 3, 1);
        Check.methodFault(6, "x;&x;x", 2, 1);
        Check.methodFault(6, "x;+x;x", 2, 1);
        Check.methodFault(6, "x;.x;x", 2, 1);
        Check.methodFault(6, "x;x;xx", 5, 1);
        Check.methodFault(6, "x;x;x12", 5, 1);
        Check.methodFault(6, "x;x;12x", 6, 1);
        Check.methodFault(6, "x;x;12 12", 7, 1);
        Check.methodFault(6, "x;x;x;", 5, 1);
        Check.methodFault(6, "x;x;x,", 5, 1);
        Check.methodFault(6, "X;x;x", 0, 1);
        Check.methodFault(6, "|x;x;x", 0, 1);
        Check.methodFault(6, "x\t;x;x", 1, 1);
        Check.methodFault(6, "x\r;x;x", 1, 1);
        Check.methodFault(6, "0;x;x", 0, 1);
        Check.methodFault(6, "9;x;x", 0, 1);
        Check.methodFault(6, "16 16;x;x", 3, 1);
    }

    private static void methodFaultPlaces() {
        Check.methodFault(6, "7;x;x", 0, 2);
        Check.methodFault(6, "x167;x;x", 1, 2);
        Check.methodFault(6, "x13;x;x", 1, 2);
        Check.methodFault(6, "x61;x;x", 1, 2);
        Check.methodFault(6, "x11;x;x", 1, 2);
        Check.methodFault(6, "x24;x;x", 1, 2);
        Check.methodFault(6, "x136!", 1, 2);
        Check.methodFault(6, "x130;x;x", 1, 2);
        Check.methodFault(6, "x120;x;x", 3, 1);
        Check.methodFault(6, "x;13;!", 2, 2);
        Check.methodFault(6, "x;x;13", 4, 2);
        Check.methodFault(6, "x;x;  13 ", 6, 2);
        Check.methodFault(5, "x;1;1", 0, 2);
        Check.methodFault(5, "1-;1;1", 1, 2);
        Check.methodFault(5, "1;x;1", 2, 2);
        Check.methodFault(5, "1;1;-", 4, 2);
        Check.methodFault(5, "1;1x;1", 3, 1);
        Check.methodFault(5, "13;1;1", 0, 2);
        Check.methodFault(5, "6;1;1", 0, 2);
        Check.methodFault(7, "8;1;1", 0, 2);
        Check.methodFault(8, "13;1;1", 0, 2);
    }

    private static void methodLimits() {
        String many = "x".repeat(64);
        BellTower t = Check.tower(6);
        Check.due("64 changes", 64, () -> Check.method(t, 0, many + ";x;x"));
        Check.due("row 64", 123456, () -> t.lead(0, 64));
        Check.due("63 and 1", 64, () -> Check.method(t, 0, "x".repeat(63) + ",x;x;x"));
        Check.due("&: 32 and 31, and 1", 64, () -> Check.method(t, 0, "&" + "x".repeat(32) + ",x;x;x"));
        Check.methodFault(6, many + "x;x;x", 65, 3);
        Check.methodFault(6, many + "x,x;x;x", 65, 3);
        Check.methodFault(6, many + ",x;x;x", 66, 3);
        Check.methodFault(6, many + ",x,!", 66, 3);
        Check.methodFault(6, "&" + "x".repeat(33) + ";x;x", 34, 3);
        Check.methodFault(6, "xx,&" + "x".repeat(32) + ";x;x", 36, 3);
        Check.methodFault(6, many + "x", 65, 1);
        Check.methodFault(6, many + "x13;x;x", 65, 2);
        Check.methodFault(6, many + "x!;x;x", 65, 1);
        Check.methodFault(6, "x".repeat(490) + ";x;x", 490, 3);
        Check.methodFault(6, "&" + "x".repeat(499), 500, 1);
    }

    private static void methodChangesState() {
        BellTower t = Check.tower(6, BOB_MINOR, "x16;x;x");
        Check.compose(t, "3p");
        Check.due("a fault", -3, () -> Check.method(t, 0, "xx"));
        Check.due("the method stays", 135264, () -> t.lead(0, 12));
        Check.due("no more of it", Check.NOTHING, () -> t.lead(0, 13));
        Check.due("the composition stays", 3, () -> t.touch(0));
        Check.due("its rows stay", 36, () -> t.touch(1));
        Check.due("another is told", 2, () -> Check.method(t, 2, "x16;x;x"));
        Check.due("the composition is empty", 0, () -> t.touch(0));
        Check.due("it has no rows", 0, () -> t.touch(1));
        Check.due("it is rounds", 123456, () -> t.touch(5));
    }

    private static void compose() {
        BellTower t = Check.tower(6, BOB_MINOR, "x16;x;x");
        Check.due("one lead", 1, () -> Check.compose(t, "p"));
        Check.due("no fault", 0, t::fault);
        Check.due("the tape is empty", 0, () -> t.count(2));
        Check.due("numbers", 2 + 99 + 2, () -> Check.compose(t, "2p99b02s"));
        Check.due("a number and blanks", 12, () -> Check.compose(t, " 12 \n p "));
        Check.due("groups", 2 * (1 + 3 * 2 + 1), () -> Check.compose(t, "2(p3(bs)s)"));
        Check.due("letters", 2, () -> Check.compose(t, "BpAp"));
        Check.due("a letter alone", 0, () -> Check.compose(t, "B"));
        Check.due("a number and a letter", 1, () -> Check.compose(t, "5Bp"));
        Check.due("a group of letters", 1, () -> Check.compose(t, "99(99(AB))p"));
        Check.due("the method goes on", 1, () -> t.called(0, 1));
        Check.due("blanks in groups", 4, () -> Check.compose(t, " 2 ( p b ) "));
    }

    private static void composeFault(String text, int place, int kind) {
        BellTower t = Check.tower(6, BOB_MINOR, "x16;x;x");
        Check.compose(t, "ppp");
        Check.composeFault(t, text, place, kind);
    }

    private static void composeFaults() {
        composeFault("", 0, 1);
        composeFault("  ", 2, 1);
        composeFault("(", 1, 1);
        composeFault("(p", 2, 1);
        composeFault("()", 1, 1);
        composeFault("p()", 2, 1);
        composeFault("p)", 1, 1);
        composeFault(")", 0, 1);
        composeFault("(p3)", 3, 1);
        composeFault("p2", 2, 1);
        composeFault("p2 ", 3, 1);
        composeFault("2 3p", 2, 1);
        composeFault("2 100p", 2, 1);
        composeFault("P", 0, 1);
        composeFault("pa", 1, 1);
        composeFault("pG", 1, 1);
        composeFault("p\t", 1, 1);
        composeFault("p,p", 1, 1);
        composeFault("1p", 0, 2);
        composeFault("0p", 0, 2);
        composeFault("00p", 0, 2);
        composeFault("01p", 0, 2);
        composeFault("p1!", 1, 2);
        composeFault("p1", 1, 2);
        composeFault("p100p", 1, 2);
        composeFault("p002p", 1, 2);
        composeFault("p99999999999999999999p", 1, 2);
        composeFault("1 2p", 0, 2);
        composeFault("C", 0, 3);
        composeFault("pFp", 1, 3);
        composeFault("p2Cp", 2, 3);
        composeFault("((((((p))))))", 5, 4);
        composeFault("(((((2(p))))))", 6, 4);
        composeFault("(((((p", 6, 1);
        composeFault("((((((", 5, 4);
    }

    private static void composeOrder() {
        BellTower t = Check.tower(6);
        Check.due("A was not told", -1, () -> Check.compose(t, "p"));
        Check.due("kind 3", 3, t::fault);
        Check.due("B is told", 2, () -> Check.method(t, 1, "x16;x;x"));
        Check.due("A is rung first", -3, () -> Check.compose(t, "2(pB)"));
        Check.due("kind 3 as it is read", 3, t::fault);
        Check.due("a single of A", -1, () -> Check.compose(t, "sB"));
        Check.due("a bob of A", -2, () -> Check.compose(t, "(bB)"));
        Check.due("a stray byte ahead", -1, () -> Check.compose(t, "!p"));
        Check.due("kind 1", 1, t::fault);
        Check.due("B at once", 2, () -> Check.compose(t, "2(Bp)"));
        Check.due("each text begins with A", -1, () -> Check.compose(t, "p"));
        Check.due("a number without a unit", -4, () -> Check.compose(t, "Bp3"));
        Check.due("is no number of the next text", 1, () -> Check.compose(t, "Bp"));
        Check.due("a group without its end", -4, () -> Check.compose(t, "(Bp"));
        Check.due("is no group of the next text", 1, () -> Check.compose(t, "Bp"));
        Check.due("A is told", 1, () -> Check.method(t, 0, "x;x;x"));
        Check.due("a method goes on", 6, () -> Check.compose(t, "2(pBp)ApBp"));
        int[] due = {0, 1, 1, 1, 0, 1};
        for (int i = 0; i < due.length; i++) {
            int lead = i;
            Check.due("method of lead " + i, due[i], () -> t.called(lead, 1));
        }
    }

    private static void composeLimits() {
        BellTower t = Check.tower(6, BOB_MINOR);
        Check.due("a number without a unit", -3, () -> Check.compose(t, "p2"));
        Check.due("is gone with its text", 1, () -> Check.compose(t, "p"));
        Check.due("five deep", 32, () -> Check.compose(t, "2(2(2(2(2(p)))))"));
        Check.due("five deep twice", 2, () -> Check.compose(t, "(((((p)))))(((((p)))))"));
        Check.due("1000 leads", 1000, () -> Check.compose(t, "10(99p)10b"));
        Check.due("row 11999", false, Check.answer(() -> t.row(11999)).startsWith("throws"));
        Check.due("row 12000", Check.NOTHING, () -> t.row(12000));
        composeFault("10(99p)11b", 10, 5);
        composeFault("99(99(99(99(99p))))", 19, 5);
        composeFault(" 11(91p) ", 9, 5);
        composeFault("10(99p)10bb", 11, 5);
        composeFault("11(91p)!", 7, 1);
        composeFault("11(91p)C", 7, 3);
        Check.due("no lead, but often", 0, () -> Check.compose(t, "99(99(99(99(99A))))"));
        Check.due("leads and none", 99, () -> Check.compose(t, "99(p99(99(99(99A))))"));
        Check.due("500 bytes", 500, () -> Check.compose(t, "p".repeat(500)));
    }

    private static void fault() {
        BellTower t = Check.tower(6);
        Check.due("none yet", 0, t::fault);
        Check.method(t, 0, "13;x;x");
        Check.due("a method's", 2, t::fault);
        t.end(0);
        Check.due("a call that throws", Check.BAD_INDEX, () -> t.method(6));
        Check.due("it stays", 2, t::fault);
        t.stage(6);
        Check.music(t, "!");
        Check.due("it stays still", 2, t::fault);
        Check.compose(t, "p");
        Check.due("a composition's", 3, t::fault);
        Check.method(t, 0, BOB_MINOR);
        Check.due("none", 0, t::fault);
        Check.compose(t, "((((((");
        Check.due("too deep", 4, t::fault);
        Check.compose(t, "99(99p)");
        Check.due("too many", 5, t::fault);
        t.find(0, 1, 1);
        Check.due("find has none of its own", 5, t::fault);
        Check.compose(t, "p");
        Check.due("none again", 0, t::fault);
    }

    private static void lead() {
        BellTower t = Check.tower(6, BOB_MINOR);
        int[] rows = {123456, 214365, 241635, 426153, 462513, 645231, 654321, 563412, 536142, 351624, 315264, 132546, 135264};
        for (int k = 0; k < rows.length; k++) {
            int asked = k;
            Check.due("row " + k + " of Bob Minor", rows[k], () -> t.lead(0, asked));
        }
        Check.due("row 13", Check.NOTHING, () -> t.lead(0, 13));
        Check.due("row -1", Check.NOTHING, () -> t.lead(0, -1));
        for (int m : new int[] {1, 5, 6, -1, Integer.MAX_VALUE, Integer.MIN_VALUE}) {
            Check.due("method " + m, Check.NOTHING, () -> t.lead(m, 0));
        }
        t.stage(6);
        Check.due("gone", Check.NOTHING, () -> t.lead(0, 0));
    }

    private static void change(int bells, String change, int due) {
        BellTower t = Check.tower(bells, change + ";" + (bells % 2 == 0 ? "x;x" : "1;1"));
        Check.due("change " + change + " of " + bells, due, () -> t.lead(0, 1));
    }

    private static void changes() {
        change(4, "x", 2143);
        change(4, "-", 2143);
        change(4, "1", 1324);
        change(4, "4", 1324);
        change(4, "14", 1324);
        change(4, "2", 1243);
        change(4, "3", 2134);
        change(4, "23", 1234);
        change(4, "1234", 1234);
        change(5, "1", 13254);
        change(5, "2", 12435);
        change(5, "3", 21354);
        change(5, "4", 13245);
        change(5, "5", 21435);
        change(5, "123", 12354);
        change(5, "125", 12435);
        change(5, "12345", 12345);
        change(6, "2", 124365);
        change(6, "5", 214356);
        change(6, "36", 213546);
        change(7, "7", 2143657);
        change(7, "4", 1324657);
        change(8, "38", 21354768);
        change(8, "1258", 12435768);
        change(8, "78", 21436578);
        change(8, "x", 21436587);
        change(8, "45678", 13245678);
    }

    private static void head() {
        BellTower t = Check.tower(6, BOB_MINOR);
        Check.due("plain", 135264, () -> t.head(0, 0));
        Check.due("bob", 123564, () -> t.head(0, 1));
        Check.due("single", 132564, () -> t.head(0, 2));
        Check.due("call 3", Check.NOTHING, () -> t.head(0, 3));
        Check.due("call -1", Check.NOTHING, () -> t.head(0, -1));
        Check.due("not told", Check.NOTHING, () -> t.head(1, 0));
    }

    private static void course() {
        BellTower t = Check.tower(6, BOB_MINOR, "x.x;x;x", "x;x;x", "123456;x;x");
        Check.due("Bob Minor", 5, () -> t.course(0));
        Check.due("twice x", 1, () -> t.course(1));
        Check.due("x", 2, () -> t.course(2));
        Check.due("all places", 1, () -> t.course(3));
        Check.due("not told", Check.NOTHING, () -> t.course(4));
        Check.due("no such method", Check.NOTHING, () -> t.course(-1));
        BellTower long8 = Check.tower(8, "x.18;x;x", "34.45678;x;x", CAMBRIDGE_MAJOR);
        Check.due("plain hunt", 8, () -> long8.course(0));
        Check.due("Cambridge Major", 7, () -> long8.course(2));
    }

    private static void line() {
        BellTower t = Check.tower(6, BOB_MINOR);
        int[] treble = {1, 2, 3, 4, 5, 6, 6, 5, 4, 3, 2, 1, 1, 2};
        for (int k = 0; k < treble.length; k++) {
            int asked = k;
            Check.due("treble in row " + k, treble[k], () -> t.line(0, 1, asked));
        }
        for (int k = 0; k < 12; k++) {
            int asked = k;
            Check.due("second in row " + k, placeIn(t.lead(0, k), 2), () -> t.line(0, 2, asked));
        }
        Check.due("second in row 1", 1, () -> t.line(0, 2, 1));
        Check.due("second in row 12", 4, () -> t.line(0, 2, 12));
        Check.due("a course on", 2, () -> t.line(0, 2, 60));
        Check.due("a course and a row on", 1, () -> t.line(0, 2, 61));
        int far = Integer.MAX_VALUE;
        Check.due("far on", t.line(0, 5, far % 60), () -> t.line(0, 5, far));
        Check.due("bell 0", Check.NOTHING, () -> t.line(0, 0, 0));
        Check.due("bell 7", Check.NOTHING, () -> t.line(0, 7, 0));
        Check.due("row -1", Check.NOTHING, () -> t.line(0, 1, -1));
        Check.due("not told", Check.NOTHING, () -> t.line(1, 1, 0));
        Check.due("bell 6", 6, () -> t.line(0, 6, 0));
    }

    private static int placeIn(int row, int bell) {
        return Integer.toString(row).indexOf('0' + bell) + 1;
    }

    private static void falseHeads() {
        BellTower t = Check.tower(4, MINIMUS);
        Check.due("of Minimus", 8, () -> t.falseHeads(0, 0));
        int[] due = {1234, 1324, 2143, 2413, 3142, 3412, 4231, 4321};
        for (int k = 0; k < due.length; k++) {
            int asked = k;
            Check.due("false head " + k, due[k], () -> t.falseHead(0, 0, asked));
        }
        for (int k : new int[] {-1, 8, Integer.MIN_VALUE, Integer.MAX_VALUE}) {
            Check.due("false head " + k, -1, () -> t.falseHead(0, 0, k));
        }
        Check.due("l not told", Check.NOTHING, () -> t.falseHeads(0, 1));
        Check.due("m not told", Check.NOTHING, () -> t.falseHeads(1, 0));
        Check.due("l not told, one", Check.NOTHING, () -> t.falseHead(0, 1, -1));
        Check.due("m not told, one", Check.NOTHING, () -> t.falseHead(-1, 0, 0));
    }

    /** With one row alone in the lead of one method the false heads can be read off. */
    private static void falseHeadsOfTwo() {
        BellTower t = Check.tower(4, "34;x;x", "14.34.14;x;x");
        Check.due("three rows", 3, () -> t.falseHeads(1, 0));
        Check.due("three rows, the other way", 3, () -> t.falseHeads(0, 1));
        int[] rows = {1234, 1324, 3124};
        int[] back = {1234, 1324, 2314};
        for (int k = 0; k < 3; k++) {
            int asked = k;
            Check.due("rows of the first are the heads", rows[k], () -> t.falseHead(1, 0, asked));
            Check.due("what brings rounds by the second", back[k], () -> t.falseHead(0, 1, asked));
        }
    }

    private static void touch() {
        BellTower t = Check.tower(6, BOB_MINOR);
        Check.compose(t, "p");
        int[] due = {1, 12, 1, -1, -1, 135264, 0, 5, 0, 0, 0};
        for (int what = 0; what < due.length; what++) {
            int asked = what;
            Check.due("touch " + what, due[what], () -> t.touch(asked));
        }
        for (int what : new int[] {-1, 11, Integer.MAX_VALUE, Integer.MIN_VALUE}) {
            Check.due("touch " + what, -1, () -> t.touch(what));
        }
        Check.compose(t, "3b");
        Check.due("three bobs come home", 1, () -> t.touch(6));
        Check.due("their end", 123456, () -> t.touch(5));
        Check.due("once", 1, () -> t.touch(7));
        Check.due("36 rows", 36, () -> t.touch(1));
        Check.due("and are true", 1, () -> t.touch(2));
    }

    private static void touchRepeats() {
        BellTower t = Check.tower(4, MINIMUS, "x.x;x;x", "34;x;x");
        Check.compose(t, "2b");
        Check.due("not true", 0, () -> t.touch(2));
        Check.due("row 8", 8, () -> t.touch(3));
        Check.due("is row 0", 0, () -> t.touch(4));
        Check.compose(t, "2s");
        Check.due("row 8 again", 8, () -> t.touch(3));
        Check.due("is row 7", 7, () -> t.touch(4));
        Check.compose(t, "Bp");
        Check.due("x and x alone are true", 1, () -> t.touch(2));
        Check.compose(t, "BpAp");
        Check.due("row 2 is rounds", 2, () -> t.touch(3));
        Check.due("as row 0", 0, () -> t.touch(4));
        Check.compose(t, "C3p");
        Check.due("row 2 of three leads of one row", 2, () -> t.touch(3));
        Check.due("the END is no row", 2, () -> countRows(t, "C2p"));
        Check.compose(t, "2s");
        Check.due("the one ahead, asked first", 7, () -> t.touch(4));
        t.stage(4);
        Check.due("true without leads", 1, () -> t.touch(2));
        Check.due("no row again", -1, () -> t.touch(3));
        Check.due("none ahead of it", -1, () -> t.touch(4));
        BellTower calls = Check.tower(4, "x.14;34;x");
        Check.compose(calls, "bsp");
        Check.due("behind a bob and a single", 4, () -> calls.touch(3));
        Check.due("is like the row behind the bob", 2, () -> calls.touch(4));
        Check.compose(calls, "sbp");
        Check.due("behind a single", 2, () -> calls.touch(3));
        Check.due("is like rounds", 0, () -> calls.touch(4));
    }

    private static int countRows(BellTower t, String composition) {
        Check.compose(t, composition);
        return t.touch(2) == 1 && t.touch(6) == 1 ? t.touch(1) : -5;
    }

    private static void touchCounts() {
        BellTower t = Check.tower(6, BOB_MINOR, "x16;x;x", "x16x16;12;x");
        Check.compose(t, "2b3sp BppCs BA p");
        Check.due("leads", 10, () -> t.touch(0));
        Check.due("rows", 6 * 12 + 2 * 2 + 4 + 12, () -> t.touch(1));
        Check.due("bobs", 2, () -> t.touch(8));
        Check.due("singles", 4, () -> t.touch(9));
        Check.due("changes of method", 3, () -> t.touch(10));
        Check.compose(t, "pBp");
        Check.due("from the first lead to the next", 1, () -> t.touch(10));
        Check.compose(t, "BABp");
        Check.due("from A without a lead", 0, () -> t.touch(10));
        BellTower eight = Check.tower(8, "34.1458;x;x");
        Check.compose(eight, "p");
        Check.due("an order", orderOf(eight.touch(5)), () -> eight.touch(7));
    }

    private static int orderOf(int row) {
        String first = Integer.toString(row);
        String now = first;
        int times = 1;
        while (!now.equals("12345678")) {
            StringBuilder next = new StringBuilder();
            for (char place : first.toCharArray()) {
                next.append(now.charAt(place - '1'));
            }
            now = next.toString();
            times++;
        }
        return times;
    }

    private static void called() {
        BellTower t = Check.tower(6, BOB_MINOR, "x16;x;x");
        Check.compose(t, "pBbAs");
        int[][] due = {{123456, 0, 0, 0}, {135264, 1, 1, 12}, {135264, 0, 2, 14}};
        for (int i = 0; i < due.length; i++) {
            for (int what = 0; what < 4; what++) {
                int lead = i;
                int asked = what;
                Check.due("called " + i + " " + what, due[i][what], () -> t.called(lead, asked));
            }
        }
        Check.due("lead 3", Check.NOTHING, () -> t.called(3, 0));
        Check.due("lead -1", Check.NOTHING, () -> t.called(-1, 0));
        Check.due("what 4", Check.NOTHING, () -> t.called(0, 4));
        Check.due("what -1", Check.NOTHING, () -> t.called(0, -1));
    }

    private static void row() {
        BellTower t = Check.tower(6, BOB_MINOR, "x16;x;x");
        Check.compose(t, "bp");
        for (int k = 0; k < 12; k++) {
            int asked = k;
            Check.due("row " + k, t.lead(0, k), () -> t.row(asked));
        }
        Check.due("row 12, behind a bob", 123564, () -> t.row(12));
        Check.due("row 13", 215346, () -> t.row(13));
        Check.due("row 23", 132654, () -> t.row(23));
        Check.due("row 24", Check.NOTHING, () -> t.row(24));
        Check.due("row -1", Check.NOTHING, () -> t.row(-1));
        t.stage(6);
        Check.due("none", Check.NOTHING, () -> t.row(0));
    }

    private static void music() {
        BellTower t = Check.tower(4, MINIMUS);
        Check.compose(t, "3p");
        String[] good = {"*", "1234", "????", "*????", "12*34", "*12", "1*", "1*4", "?2*1", "4321*", "??*??", "*?4", "2*?"};
        int[] due = {24, 1, 24, 24, 1, 2, 6, 2, 2, 1, 24, 6, 6};
        for (int i = 0; i < good.length; i++) {
            String pattern = good[i];
            Check.due("music " + pattern, due[i], () -> Check.music(t, pattern));
            Check.due("the tape is empty", 0, () -> t.count(2));
        }
        String[] bad = {"", "11*", "1*1", "5*", "12345", "?????", "*?????", "123", "???", "**", "1*2*", "0*", "9*", "a*", " *", "1234 ", "1 2*", "1234\n", "1?3"};
        for (String pattern : bad) {
            Check.due("music '" + pattern + "'", -1, () -> Check.music(t, pattern));
            Check.due("the tape is empty", 0, () -> t.count(2));
        }
        Check.compose(t, "p");
        Check.due("of one lead", 8, () -> Check.music(t, "*"));
        Check.due("a row twice counts twice", 2, () -> twice());
        t.stage(8);
        Check.due("no rows", 0, () -> Check.music(t, "8*"));
        Check.due("no pattern", -1, () -> Check.music(t, "9*"));
        Check.due("500 signs", -1, () -> Check.music(t, "?".repeat(500)));
    }

    private static int twice() {
        BellTower t = Check.tower(4, "1234;x;x");
        Check.compose(t, "2p");
        return Check.music(t, "1234");
    }

    private static void whole() {
        BellTower t = Check.tower(4, MINIMUS);
        Check.compose(t, "p");
        Check.due("three times plain", 1, t::whole);
        Check.compose(t, "s");
        Check.due("true once, not twice", 0, t::whole);
        Check.due("true once", 1, () -> t.touch(2));
        Check.compose(t, "2b");
        Check.due("not true once", 0, t::whole);
        BellTower six = Check.tower(6, BOB_MINOR);
        Check.compose(six, "2(99p)p");
        Check.due("199 leads 5 times", 0, six::whole);
        Check.compose(six, "2(99p)3p");
        Check.due("201 leads 5 times", -1, six::whole);
        Check.compose(six, "2(99p)2p");
        Check.due("200 leads once", 0, six::whole);
        Check.compose(six, "10(99p)10p");
        Check.due("1000 leads once", 0, six::whole);
        BellTower two = Check.tower(6, "x;16;x");
        Check.compose(two, "5(99p)4p");
        Check.due("499 leads twice", 0, two::whole);
        Check.compose(two, "5(99p)6p");
        Check.due("501 leads twice", -1, two::whole);
        Check.compose(two, "5(99p)5p");
        Check.due("500 leads once", 0, two::whole);
        Check.compose(two, "p");
        Check.due("x twice", 1, two::whole);
        wholeOf(Check.tower(6, BOB_MINOR, "x16;x;x"));
    }

    private static void wholeOf(BellTower t) {
        String[] compositions = {"2p", "pb", "bp", "4pb", "pBp", "BpAp", "ps", "4ps", "Bpb", "3b", "2bp"};
        int[] due = {0, 1, 1, 1, 0, 0, 1, 1, 0, 1, 1};
        for (int i = 0; i < compositions.length; i++) {
            Check.compose(t, compositions[i]);
            Check.due("whole " + compositions[i], due[i], t::whole);
        }
    }

    private static void find() {
        BellTower t = Check.tower(4, MINIMUS);
        Check.due("three leads", 0, () -> t.find(0, 3, 100));
        Check.due("three looks", 3, () -> t.count(3));
        Check.due("three leads in the composition", 3, () -> t.touch(0));
        Check.due("round", 1, () -> t.touch(6));
        Check.due("true", 1, () -> t.touch(2));
        Check.due("one lead, bob", 0, () -> t.find(0, 1, 1));
        Check.due("bob", 1, () -> t.called(0, 2));
        Check.due("two leads", 1, () -> t.find(0, 2, 100));
        Check.due("four looks", 4, () -> t.count(3));
        Check.due("the composition stays", 1, () -> t.touch(0));
        Check.due("just enough looks", 1, () -> t.find(0, 2, 4));
        Check.due("one too few", 2, () -> t.find(0, 2, 3));
        Check.due("three were looked at", 3, () -> t.count(3));
        Check.due("the composition stays still", 1, () -> t.touch(0));
        Check.due("more leads than there are", 1, () -> t.find(0, 200, 3000));
        BellTower six = Check.tower(6, BOB_MINOR, "x.x.x;x;x", "x;x;x", "16;16;x");
        Check.due("a false lead", 1, () -> six.find(1, 3, 3000));
        Check.due("rounds alone", 1, () -> six.count(3));
        Check.due("plain of many that come home", 0, () -> six.find(2, 2, 10));
        Check.due("both plain", 0, () -> six.called(0, 2) + six.called(1, 2));
        BellTower late = Check.tower(6, "x16;12;x");
        Check.due("single alone comes home", 0, () -> late.find(0, 1, 1));
        Check.due("single", 2, () -> late.called(0, 2));
        Check.due("of method 3", 0, () -> six.find(3, 2, 10));
        Check.due("the method is told", 3, () -> six.called(1, 1));
        Check.due("Bob Minor, 5 leads", 0, () -> six.find(0, 5, 100));
        Check.due("all plain", 0, () -> six.touch(8) + six.touch(9));
        Check.due("Bob Minor, 3 leads", 0, () -> six.find(0, 3, 3000));
        Check.due("three bobs", 3, () -> six.touch(8));
        findTurningBack(six);
    }

    /** What was rung on a way that led nowhere may come again on another. */
    private static void findTurningBack(BellTower t) {
        Check.due("4 leads", 1, () -> t.find(0, 4, 3000));
        Check.due("40 looks", 40, () -> t.count(3));
        Check.due("6 leads", 0, () -> t.find(0, 6, 19));
        Check.due("19 looks", 19, () -> t.count(3));
        int[] calls = {0, 0, 1, 0, 0, 1};
        for (int i = 0; i < calls.length; i++) {
            int lead = i;
            Check.due("call " + i, calls[i], () -> t.called(lead, 2));
        }
        Check.due("one look less", 2, () -> t.find(0, 6, 18));
        Check.due("7 leads", 1, () -> t.find(0, 7, 3000));
        Check.due("778 looks", 778, () -> t.count(3));
    }

    private static void findLimits() {
        BellTower t = Check.tower(4, MINIMUS);
        int[][] bad = {{0, 1}, {201, 1}, {1, 0}, {1, 3001}, {-1, 5}, {5, -1}, {Integer.MAX_VALUE, 1}, {1, Integer.MIN_VALUE}};
        for (int[] args : bad) {
            Check.due("find of " + args[0] + " " + args[1], Check.BAD_ARGUMENT, () -> t.find(0, args[0], args[1]));
            Check.due("of none " + args[0] + " " + args[1], Check.BAD_ARGUMENT, () -> t.find(9, args[0], args[1]));
        }
        Check.due("not told", Check.NOTHING, () -> t.find(1, 1, 1));
        Check.due("no such method", Check.NOTHING, () -> t.find(6, 200, 3000));
        Check.due("no such method", Check.NOTHING, () -> t.find(-1, 1, 1));
        Check.due("none was looked at", 0, () -> t.count(3));
    }

    private static void findKeeps() {
        BellTower t = Check.tower(8, CAMBRIDGE_MAJOR);
        Check.append(t, "abc");
        Check.due("7 leads", 0, () -> t.find(0, 7, 7));
        Check.due("the tape stays", 3, () -> t.count(2));
        Check.due("224 rows", 224, () -> t.touch(1));
        Check.due("200 leads, few looks", 2, () -> t.find(0, 200, 200));
        Check.due("the composition stays", 7, () -> t.touch(0));
        Check.due("200 looks", 200, () -> t.count(3));
        t.stage(4);
        Check.due("the looks stay", 200, () -> t.count(3));
    }

    private static void count() {
        BellTower t = Check.tower(5, "1.5;1;1", "5.1;1;1");
        Check.append(t, "abcde");
        Check.due("stage", 5, () -> t.count(0));
        Check.due("methods", 2, () -> t.count(1));
        Check.due("tape", 5, () -> t.count(2));
        Check.due("looks", 0, () -> t.count(3));
        for (int what : new int[] {-1, 4, Integer.MAX_VALUE, Integer.MIN_VALUE}) {
            Check.due("count " + what, -1, () -> t.count(what));
        }
    }

    private static void throwsChangeNothing() {
        BellTower t = Check.tower(6, BOB_MINOR);
        t.find(0, 5, 50);
        Check.tape(t, "13;");
        t.method(1);
        Check.tape(t, "xyz");
        Check.answer(() -> t.method(6));
        Check.answer(() -> t.find(1, 1, 1));
        Check.answer(() -> t.find(0, 0, 1));
        Check.answer(() -> t.lead(5, 0));
        Check.answer(() -> t.row(9999));
        Check.answer(() -> t.called(0, 9));
        Check.due("tape", 3, () -> t.count(2));
        Check.due("looks", 5, () -> t.count(3));
        Check.due("fault", 2, t::fault);
        Check.due("composition", 5, () -> t.touch(0));
        Check.due("methods", 1, () -> t.count(1));
    }
}
