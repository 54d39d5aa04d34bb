/** The boundary cases of ROWS and METHODS under the document's terms: a test for each sentence that names one. */
public final class MethodEdgeTests {
    private static final int[] STAGES = {4, 5, 6, 7, 8};

    public static void main(String[] args) {
        Check.each(
            MethodEdgeTests::stageBounds, MethodEdgeTests::rowDigits, MethodEdgeTests::rounds, MethodEdgeTests::cross,
            MethodEdgeTests::everySetOfPlaces, MethodEdgeTests::risingDigits, MethodEdgeTests::placesOfTheStage,
            MethodEdgeTests::othersBetween, MethodEdgeTests::aheadOfTheFirst, MethodEdgeTests::behindTheLast,
            MethodEdgeTests::threeParts, MethodEdgeTests::oneChangeCalled, MethodEdgeTests::blocks,
            MethodEdgeTests::marks, MethodEdgeTests::changesOfABlock, MethodEdgeTests::backAgain,
            MethodEdgeTests::dots, MethodEdgeTests::blanks, MethodEdgeTests::blankSigns,
            MethodEdgeTests::changesOfALead, MethodEdgeTests::firstFault, MethodEdgeTests::strayBytes,
            MethodEdgeTests::strayEnd, MethodEdgeTests::noChange, MethodEdgeTests::tooManyChanges,
            MethodEdgeTests::lastChangeLeftOut, MethodEdgeTests::calledHeads);
        Check.close("MethodEdgeTests");
    }

    /** All places are made: a change at every stage. */
    private static String still(int bells) {
        return "12345678".substring(0, bells);
    }

    private static int changes(int bells, String text) {
        return Check.method(Check.tower(bells), 0, text);
    }

    private static void stageBounds() {
        Check.says("The STAGE n is 4 to 8 bells.");
        BellTower t = new BellTower();
        Check.due("3", false, t.stage(3));
        Check.due("4", true, t.stage(4));
        Check.due("8", true, t.stage(8));
        Check.due("9", false, t.stage(9));
    }

    private static void rowDigits() {
        Check.says("A ROW has each bell 1 .. n once, at PLACES 1 .. n; it is told as a number with these n digits.");
        int[] due = {1324, 13254, 132546, 1325476, 13254768};
        for (int i = 0; i < STAGES.length; i++) {
            BellTower t = Check.tower(STAGES[i], "1;1;1");
            Check.due("row 1 of " + STAGES[i], due[i], () -> t.lead(0, 1));
        }
        BellTower back = Check.tower(8, "x.18.x.18.x.18.x.18;x;x");
        Check.due("the highest row", 87654321, () -> back.lead(0, 8));
    }

    private static void rounds() {
        Check.says("ROUNDS is 12 .. n.");
        int[] due = {1234, 12345, 123456, 1234567, 12345678};
        for (int i = 0; i < STAGES.length; i++) {
            BellTower t = Check.tower(STAGES[i], "1;1;1");
            Check.due("rounds of " + STAGES[i], due[i], () -> t.lead(0, 0));
            Check.due("the END without leads", due[i], () -> t.touch(5));
        }
    }

    private static void cross() {
        Check.says("x (or -) is the CHANGE that makes none (n even).");
        int[] due = {2143, 214365, 21436587};
        for (int i = 0; i < 3; i++) {
            BellTower t = Check.tower(4 + 2 * i, "x;x;x", "-;-;-");
            int row = due[i];
            Check.due("x of " + row, row, () -> t.lead(0, 1));
            Check.due("- of " + row, row, () -> t.lead(1, 1));
        }
        Check.methodFault(5, "x;1;1", 0, 2);
        Check.methodFault(5, "-;1;1", 0, 2);
        Check.methodFault(7, "x;1;1", 0, 2);
        Check.methodFault(7, "-;1;1", 0, 2);
    }

    private static void everySetOfPlaces() {
        Check.says("Digits are one that makes just these PLACES");
        for (int bells : STAGES) {
            for (int set = 1; set < 1 << bells; set++) {
                StringBuilder digits = new StringBuilder();
                for (int place = 1; place <= bells; place++) {
                    digits.append((set >> place - 1 & 1) == 1 ? Integer.toString(place) : "");
                }
                setOfPlaces(bells, digits.toString());
            }
        }
    }

    private static void setOfPlaces(int bells, String digits) {
        String due = rowMaking(bells, digits);
        String text = digits + ";" + still(bells) + ";" + still(bells);
        if (due.isEmpty()) {
            Check.methodFault(bells, text, 0, 2);
            return;
        }
        BellTower t = Check.tower(bells);
        Check.due(text, 1, () -> Check.method(t, 0, text));
        Check.due("row 1 by " + text, due, Check.answer(() -> t.lead(0, 1)));
    }

    /** Empty, if others stand alone between two of the places. */
    private static String rowMaking(int bells, String digits) {
        boolean oddAhead = digits.charAt(0) % 2 == 0;
        boolean oddBehind = (bells - digits.charAt(digits.length() - 1)) % 2 != 0;
        String made = (oddAhead ? "1" : "") + digits + (oddBehind ? bells : "");
        StringBuilder row = new StringBuilder();
        int place = 1;
        while (place <= bells) {
            boolean stays = made.indexOf('0' + place) >= 0;
            if (!stays && (place == bells || made.indexOf('1' + place) >= 0)) {
                return "";
            }
            row.append(stays ? Integer.toString(place) : "" + (place + 1) + place);
            place += stays ? 1 : 2;
        }
        return row.toString();
    }

    private static void risingDigits() {
        Check.says("makes just these PLACES, rising");
        Check.methodFault(6, "61;x;x", 0, 2);
        Check.methodFault(6, "1256341;x;x", 0, 2);
        Check.methodFault(6, "11;x;x", 0, 2);
        Check.methodFault(6, "166;x;x", 0, 2);
        Check.methodFault(4, "21;x;x", 0, 2);
        Check.due("rising by one", 1, () -> changes(6, "12;x;x"));
    }

    private static void placesOfTheStage() {
        Check.says("rising, each 1 .. n");
        for (int bells : STAGES) {
            String rest = ";" + still(bells) + ";" + still(bells);
            Check.due("1 of " + bells, 1, () -> changes(bells, "1" + rest));
            Check.due("n of " + bells, 1, () -> changes(bells, bells + rest));
            Check.methodFault(bells, "0" + rest, 0, 1);
            Check.methodFault(bells, bells + 1 + rest, 0, bells == 8 ? 1 : 2);
            Check.methodFault(bells, still(bells) + (bells + 1) + rest, bells == 8 ? 8 : 0, bells == 8 ? 1 : 2);
        }
        Check.methodFault(4, "1238;x;x", 0, 2);
        Check.methodFault(4, "18;x;x", 0, 2);
    }

    private static void othersBetween() {
        Check.says("with an even number of others between two of them");
        Check.due("none between", 1, () -> changes(8, "12;x;x"));
        Check.methodFault(8, "13;x;x", 0, 2);
        Check.due("two between", 1, () -> changes(8, "14;x;x"));
        Check.methodFault(8, "15;x;x", 0, 2);
        Check.due("four between", 1, () -> changes(8, "16;x;x"));
        Check.methodFault(8, "17;x;x", 0, 2);
        Check.due("six between", 1, () -> changes(8, "18;x;x"));
        Check.methodFault(8, "1248;x;x", 0, 2);
        Check.methodFault(8, "1246;x;x", 0, 2);
    }

    private static void aheadOfTheFirst() {
        Check.says("if the number of those ahead of the first one is odd, 1 is made, too");
        BellTower t = Check.tower(6, "2;x;x", "3;x;x", "4;x;x", "6;x;x", "36;x;x");
        Check.due("one ahead", 124365, () -> t.lead(0, 1));
        Check.due("two ahead", 213546, () -> t.lead(1, 1));
        Check.due("three ahead", 132465, () -> t.lead(2, 1));
        Check.due("five ahead", 132546, () -> t.lead(3, 1));
        Check.due("two ahead, six told", 213546, () -> t.lead(4, 1));
    }

    private static void behindTheLast() {
        Check.says("if that of those behind the last one is odd, n.");
        BellTower t = Check.tower(5, "5;1;1", "4;1;1", "3;1;1", "2;1;1", "23;1;1");
        Check.due("none behind", 21435, () -> t.lead(0, 1));
        Check.due("one behind", 13245, () -> t.lead(1, 1));
        Check.due("two behind", 21354, () -> t.lead(2, 1));
        Check.due("three behind", 12435, () -> t.lead(3, 1));
        Check.due("two behind, 1 made", 12354, () -> t.lead(4, 1));
    }

    private static void threeParts() {
        Check.says("A text tells one: LEAD ; BOB ; SINGLE.");
        Check.due("three", 1, () -> changes(6, "x;x;x"));
        Check.methodFault(6, "x", 1, 1);
        Check.methodFault(6, "x;", 2, 1);
        Check.methodFault(6, "x;x", 3, 1);
        Check.methodFault(6, "x;x;", 4, 1);
        Check.methodFault(6, "x;x;x;", 5, 1);
        Check.methodFault(6, "x;x;x;x", 5, 1);
        Check.methodFault(6, ";x;x", 0, 1);
        Check.methodFault(6, "x;;x", 2, 1);
    }

    private static void oneChangeCalled() {
        Check.says("BOB, SINGLE: a CHANGE.");
        Check.methodFault(6, "x;xx;x", 3, 1);
        Check.methodFault(6, "x;12x;x", 4, 1);
        Check.methodFault(6, "x;x12;x", 3, 1);
        Check.methodFault(6, "x;12 14;x", 5, 1);
        Check.methodFault(6, "x;12.14;x", 4, 1);
        Check.methodFault(6, "x;x,x;x", 3, 1);
        Check.methodFault(6, "x;&x;x", 2, 1);
        Check.methodFault(6, "x;+x;x", 2, 1);
        Check.methodFault(6, "x;.x;x", 2, 1);
        Check.methodFault(6, "x;x;xx", 5, 1);
        Check.methodFault(6, "x;x;12x", 6, 1);
        Check.methodFault(6, "x;x;x12", 5, 1);
        Check.methodFault(6, "x;x;12 14", 7, 1);
        Check.methodFault(6, "x;x;12.14", 6, 1);
        Check.methodFault(6, "x;x;x,x", 5, 1);
        Check.methodFault(6, "x;x;&x", 4, 1);
        Check.methodFault(6, "x;x;+x", 4, 1);
        Check.methodFault(6, "x;x;.x", 4, 1);
    }

    private static void blocks() {
        Check.says("LEAD: BLOCK { , BLOCK }.");
        Check.due("one", 1, () -> changes(6, "x;x;x"));
        Check.due("three", 3, () -> changes(6, "x,12,x;x;x"));
        Check.due("64", 64, () -> changes(6, "x" + ",x".repeat(63) + ";x;x"));
        Check.methodFault(6, ",x;x;x", 0, 1);
        Check.methodFault(6, "x,,x;x;x", 2, 1);
        Check.methodFault(6, "x,;x;x", 2, 1);
        Check.methodFault(6, "x,", 2, 1);
    }

    private static void marks() {
        Check.says("BLOCK: [ & | + ] CHANGE");
        Check.due("+ tells what no mark tells", 2, () -> changes(6, "+x12;x;x"));
        Check.due("each block has its own", 8, () -> changes(6, "&x12,x12,&x12;x;x"));
        Check.methodFault(6, "&&x;x;x", 1, 1);
        Check.methodFault(6, "+&x;x;x", 1, 1);
        Check.methodFault(6, "&+x;x;x", 1, 1);
        Check.methodFault(6, "++x;x;x", 1, 1);
        Check.methodFault(6, "x&;x;x", 1, 1);
        Check.methodFault(6, "12+;x;x", 2, 1);
        Check.methodFault(6, "x.&x;x;x", 2, 1);
        Check.methodFault(6, "&;x;x", 1, 1);
        Check.methodFault(6, "+,x;x;x", 1, 1);
        Check.methodFault(6, "x,&;x;x", 3, 1);
    }

    private static void changesOfABlock() {
        Check.says("CHANGE { [ . ] CHANGE }: these CHANGES one behind another");
        Check.due("one", 1, () -> changes(6, "12;x;x"));
        Check.due("with and without .", 6, () -> changes(6, "x.x12.x12x;x;x"));
        BellTower t = Check.tower(4, "x.14.12;x;x");
        int[] due = {1234, 2143, 2413, 2431};
        for (int k = 0; k < due.length; k++) {
            int asked = k;
            Check.due("row " + k, due[k], () -> t.lead(0, asked));
        }
        Check.methodFault(6, ".x;x;x", 0, 1);
        Check.methodFault(6, "x..x;x;x", 2, 1);
        Check.methodFault(6, "x.;x;x", 2, 1);
        Check.methodFault(6, "x.,x;x;x", 2, 1);
        Check.methodFault(6, "&.x;x;x", 1, 1);
        Check.methodFault(6, "x,.x;x;x", 2, 1);
    }

    private static void rowsOf(String text, int... due) {
        BellTower t = Check.tower(4);
        Check.due(text, due.length - 1, () -> Check.method(t, 0, text));
        for (int k = 0; k < due.length; k++) {
            int asked = k;
            Check.due("row " + k + " of " + text, due[k], () -> t.lead(0, asked));
        }
        Check.due("no more rows of " + text, Check.NOTHING, () -> t.lead(0, due.length));
    }

    private static void backAgain() {
        Check.says("with & once more back again, from the one ahead of the last to the first.");
        rowsOf("&x;14;14", 1234, 2143);
        rowsOf("&x.14;x;x", 1234, 2143, 2413, 4231);
        rowsOf("&x.14.12;x;x", 1234, 2143, 2413, 2431, 2341, 3214);
        rowsOf("+x.14.12;x;x", 1234, 2143, 2413, 2431);
        rowsOf("x,&14.12;x;x", 1234, 2143, 2413, 2431, 2341);
        rowsOf("&x.14,12;x;x", 1234, 2143, 2413, 4231, 4213);
        rowsOf("&x.14,&12;x;x", 1234, 2143, 2413, 4231, 4213);
    }

    private static void dots() {
        Check.says("(A . must stand between two that are digits;");
        Check.due("with it", 2, () -> changes(6, "16.12;x;x"));
        Check.methodFault(6, "16 12;x;x", 3, 1);
        Check.methodFault(6, "16\n12;x;x", 3, 1);
        Check.methodFault(6, "1612;x;x", 0, 2);
        Check.methodFault(6, "x16 \n 12;x;x", 6, 1);
        Check.due("with blanks round it", 2, () -> changes(6, "16 \n.\n 12;x;x"));
        Check.due("none beside x", 3, () -> changes(6, "16x12;x;x"));
        Check.due("one beside x", 3, () -> changes(6, "16.x.12;x;x"));
        Check.due("none between x and x", 2, () -> changes(6, "x-;x;x"));
        Check.due("none between blocks", 2, () -> changes(6, "16,12;x;x"));
    }

    private static void blanks() {
        Check.says("blanks, 32 and 10, anywhere but between digits of one CHANGE.)");
        String text = "&x.14-12,+12;14;1234";
        for (int at = 0; at <= text.length(); at++) {
            for (String blank : new String[] {" ", "\n", "\n  \n"}) {
                String broken = text.substring(0, at) + blank + text.substring(at);
                boolean inDigits = isDigit(text, at - 1) && isDigit(text, at);
                int due = inDigits ? -1 - at - blank.length() : 8;
                Check.due("blanks at " + at + " in " + text, due, () -> changes(4, broken));
            }
        }
    }

    private static boolean isDigit(String text, int at) {
        return at >= 0 && at < text.length() && Character.isDigit(text.charAt(at));
    }

    private static void blankSigns() {
        Check.says("blanks, 32 and 10");
        Check.due("both", 1, () -> changes(6, " \nx;x;x"));
        for (int sign : new int[] {0, 9, 11, 12, 13, 31, 33, 42, 128 + 10, 128 + 32, 255}) {
            Check.methodFault(6, (char) sign + "x;x;x", 0, 1);
        }
    }

    private static void changesOfALead() {
        Check.says("A LEAD has 1 to 64 CHANGES.");
        Check.methodFault(6, ";x;x", 0, 1);
        Check.methodFault(6, "&;x;x", 1, 1);
        Check.due("1", 1, () -> changes(6, "x;x;x"));
        Check.due("& of 1", 1, () -> changes(6, "&x;x;x"));
        Check.due("64", 64, () -> changes(6, "x".repeat(64) + ";x;x"));
        Check.due("64 of digits", 64, () -> changes(6, "12" + ".12".repeat(63) + ";x;x"));
        Check.due("& to 63", 63, () -> changes(6, "&" + "x".repeat(32) + ";x;x"));
        Check.due("& to 63, and 1", 64, () -> changes(6, "&" + "x".repeat(32) + ",x;x;x"));
        Check.methodFault(6, "x".repeat(65) + ";x;x", 65, 3);
        Check.methodFault(6, "&" + "x".repeat(33) + ";x;x", 34, 3);
        BellTower t = Check.tower(8, "x18".repeat(32) + ";x;x");
        Check.due("row 63", 13254768, () -> t.lead(0, 63));
        Check.due("row 64", 12345678, () -> t.lead(0, 64));
        Check.due("row 65", Check.NOTHING, () -> t.lead(0, 65));
    }

    private static void firstFault() {
        Check.says("FAULTS, the first along the text: 1 a byte that can't stand there (the end, at");
        Check.methodFault(6, "!13;x;x", 0, 1);
        Check.methodFault(6, "13!;x;x", 0, 2);
        Check.methodFault(6, "13;!", 0, 2);
        Check.methodFault(6, "x;!;13", 2, 1);
        Check.methodFault(6, "x".repeat(65) + "!;x;x", 65, 1);
        Check.methodFault(6, "x".repeat(65) + "13;x;x", 65, 2);
        Check.methodFault(6, "x".repeat(65) + ";!", 65, 3);
        Check.methodFault(6, "x".repeat(65) + ";13;x", 65, 3);
        Check.methodFault(6, "x".repeat(65) + ",13;x;x", 65, 3);
        Check.methodFault(6, "x".repeat(65), 65, 1);
        Check.methodFault(5, "x!", 0, 2);
        Check.methodFault(6, "17", 0, 2);
        Check.methodFault(6, "13 13;x;x", 0, 2);
        Check.methodFault(6, "16 13;x;x", 3, 1);
    }

    /** At the beginning, behind a mark, behind x, behind digits, in BOB, behind SINGLE: each of the 256 bytes. */
    private static void strayBytes() {
        Check.says("1 a byte that can't stand there");
        everyByteIn("", "x;x;x", " \n&+x-12345678", "");
        everyByteIn("&", "x;x;x", " \nx-12345678", "");
        everyByteIn("x", ";x;x", " \nx-12345678", ".,;");
        everyByteIn("18 ", ";x;x", " \nx-", ".,;12345678");
        everyByteIn("x;", ";x", "x-12345678", " \n");
        everyByteIn("x;x;x", "", " \n", "");
        everyByteIn("x;x;18 ", "", " \n", "");
    }

    /** The good ones leave no fault, those that may are not looked at; any other can not stand there. */
    private static void everyByteIn(String ahead, String behind, String good, String may) {
        for (int sign = 0; sign < 256; sign++) {
            String text = ahead + (char) sign + behind;
            if (good.indexOf(sign) >= 0) {
                Check.due("byte " + sign + " behind '" + ahead + "'", true, changes(8, text) > 0);
            } else if (may.indexOf(sign) < 0) {
                Check.methodFault(8, text, ahead.length(), 1);
            }
        }
    }

    private static void strayEnd() {
        Check.says("(the end, at how many there are)");
        Check.methodFault(6, "", 0, 1);
        Check.methodFault(6, " ", 1, 1);
        Check.methodFault(6, " \n \n", 4, 1);
        Check.methodFault(6, "&", 1, 1);
        Check.methodFault(6, "12", 2, 1);
        Check.methodFault(6, "12.", 3, 1);
        Check.methodFault(6, "12,", 3, 1);
        Check.methodFault(6, "12;", 3, 1);
        Check.methodFault(6, "12;12", 5, 1);
        Check.methodFault(6, "12;12 ", 6, 1);
        Check.methodFault(6, "12;12;", 6, 1);
        Check.methodFault(6, "12;12;\n", 7, 1);
        Check.methodFault(6, " ".repeat(500), 500, 1);
        Check.methodFault(6, "x;x;" + " ".repeat(496), 500, 1);
        Check.due("blanks up to the end", 1, () -> changes(6, "x;x;x" + " ".repeat(495)));
    }

    private static void noChange() {
        Check.says("2 digits that are no CHANGE, or x at an odd STAGE (at the first byte of it)");
        Check.methodFault(6, " \n13;x;x", 2, 2);
        Check.methodFault(6, "x.12346;x;x", 2, 2);
        Check.methodFault(6, "x,&13;x;x", 3, 2);
        Check.methodFault(6, "x; 13;x", 3, 2);
        Check.methodFault(6, "x;x;\n13", 5, 2);
        Check.methodFault(6, "x;x;7", 4, 2);
        Check.methodFault(7, "1 x;1;1", 2, 2);
        Check.methodFault(7, "1.-;1;1", 2, 2);
        Check.methodFault(7, "&x", 1, 2);
        Check.methodFault(7, "1; x;1", 3, 2);
        Check.methodFault(7, "1;1;-", 4, 2);
        Check.methodFault(7, "1;1 x;1", 4, 1);
    }

    private static void tooManyChanges() {
        Check.says("3 the CHANGES of this and the BLOCKS ahead are more than 64 (at the , or ; behind the BLOCK).");
        String many = "x".repeat(64);
        Check.methodFault(6, many + "x;x;x", 65, 3);
        Check.methodFault(6, many + "x,x;x;x", 65, 3);
        Check.methodFault(6, many + ",x;x;x", 66, 3);
        Check.methodFault(6, many + ",x,x;x;x", 66, 3);
        Check.methodFault(6, many + ",x ;x;x", 67, 3);
        Check.methodFault(6, "x,&" + "x".repeat(33) + ",x;x;x", 36, 3);
        Check.methodFault(6, "xx,&" + "x".repeat(32) + ",x;x;x", 36, 3);
        Check.due("x and & to 63", 64, () -> changes(6, "x,&" + "x".repeat(32) + ";x;x"));
        Check.methodFault(6, "x".repeat(497) + ";x;", 497, 3);
        Check.methodFault(6, "&" + "x".repeat(497) + ";x", 498, 3);
    }

    private static void lastChangeLeftOut() {
        Check.says("g, and what comes of it by the CHANGES one behind another, but for the last one;");
        BellTower t = Check.tower(4, "x.14;x;x", "x;x;x");
        Check.compose(t, "p");
        Check.due("two changes, two rows", 2, () -> t.touch(1));
        Check.due("the last of them", 2143, () -> t.row(1));
        Check.due("none is what follows", Check.NOTHING, () -> t.row(2));
        Check.compose(t, "Bp");
        Check.due("one change, one row", 1, () -> t.touch(1));
        Check.due("the head", 1234, () -> t.row(0));
        Check.due("what follows", 2143, () -> t.touch(5));
    }

    private static void calledHeads() {
        Check.says("if it is CALLED plain; if it is CALLED bob or single, BOB or SINGLE stands in the place of the last "
            + "CHANGE.");
        int[][] due = {{2143, 1324, 1243}, {4231, 2413, 2431}, {2413, 2143, 2134}, {4213, 4231, 4321}};
        BellTower t = Check.tower(4, "x;14;12", "&x14;1234;12", "x,14;1234;12", "&x14,12;1234;14");
        for (int m = 0; m < due.length; m++) {
            for (int call = 0; call < 3; call++) {
                int method = m;
                int as = call;
                Check.due("head " + m + " " + call, due[m][call], () -> t.head(method, as));
            }
        }
    }
}
