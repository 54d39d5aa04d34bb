/**
 * The boundary cases of COMPOSITIONS, FALSE HEADS, MUSIC and FOUND under the document's terms: a test for each
 * sentence that names one.
 */
public final class CompositionEdgeTests {
    /** One row a lead: plain changes all, bob the middle two, single the last two. */
    private static final String ONE_ROW = "x;14;12";
    private static final String BOB_MINOR = "&x16x16x16,12;14;1234";

    public static void main(String[] args) {
        Check.each(
            CompositionEdgeTests::oneItem, CompositionEdgeTests::numberAndUnit, CompositionEdgeTests::unitBytes,
            CompositionEdgeTests::letters, CompositionEdgeTests::groups, CompositionEdgeTests::numbers,
            CompositionEdgeTests::methodGoesOn, CompositionEdgeTests::blanks, CompositionEdgeTests::blankSigns,
            CompositionEdgeTests::firstFault, CompositionEdgeTests::strayEnd, CompositionEdgeTests::wrongNumbers,
            CompositionEdgeTests::untoldMethods, CompositionEdgeTests::asItIsRead, CompositionEdgeTests::tooDeep,
            CompositionEdgeTests::tooManyLeads, CompositionEdgeTests::otherFaultsFirst,
            CompositionEdgeTests::digitsOfNumbers, CompositionEdgeTests::rowsOfTheTouch,
            CompositionEdgeTests::endOfTheTouch, CompositionEdgeTests::trueTouch, CompositionEdgeTests::roundTouch,
            CompositionEdgeTests::orders, CompositionEdgeTests::falseHeadsOfTwo,
            CompositionEdgeTests::risingFalseHeads, CompositionEdgeTests::starAndAnyBell,
            CompositionEdgeTests::firstToLastPlace, CompositionEdgeTests::digitsTwice,
            CompositionEdgeTests::digitsAbove, CompositionEdgeTests::tooManySigns, CompositionEdgeTests::tooFewSigns,
            CompositionEdgeTests::roundsFirst, CompositionEdgeTests::refusedHeads,
            CompositionEdgeTests::refusedOnTheWay, CompositionEdgeTests::wayBack, CompositionEdgeTests::lastOfTheLeads,
            CompositionEdgeTests::orderOfTheLooks, CompositionEdgeTests::nothingLeft,
            CompositionEdgeTests::looksSpent);
        Check.close("CompositionEdgeTests");
    }

    private static BellTower six() {
        return Check.tower(6, "x;x;x", "x;x;x", "x;x;x", "x;x;x", "x;x;x", "x;x;x");
    }

    /** A and C to F are not told. */
    private static BellTower onlyB() {
        BellTower t = Check.tower(6);
        Check.method(t, 1, "x;x;x");
        return t;
    }

    private static void leads(String text, int due) {
        BellTower t = six();
        Check.due("compose '" + text + "'", due, () -> Check.compose(t, text));
        Check.due("its kind", 0, t::fault);
        Check.due("its leads", due, () -> t.touch(0));
    }

    private static void fault(String text, int place, int kind) {
        BellTower t = six();
        Check.compose(t, "ppp");
        Check.composeFault(t, text, place, kind);
    }

    private static void oneItem() {
        Check.says("Text: ITEMS, one at least.");
        fault("", 0, 1);
        fault(" \n", 2, 1);
        fault("()", 1, 1);
        fault("p( \n)", 4, 1);
        fault("2(3())", 4, 1);
        fault("(p)()", 4, 1);
        leads("p", 1);
        leads("(p)", 1);
        leads("(A)", 0);
        leads("F", 0);
    }

    private static void numberAndUnit() {
        Check.says("ITEM: [ NUMBER ] UNIT.");
        leads("2p2b2s", 6);
        leads("2A2B2p", 2);
        leads("2(2p)", 4);
        fault("2", 1, 1);
        fault("p2", 2, 1);
        fault("p2 ", 3, 1);
        fault("(p2)", 3, 1);
        fault("2)", 1, 1);
        fault("2 2p", 2, 1);
        fault("2\n2p", 2, 1);
        fault("99 100p", 3, 1);
        fault("2 1p", 2, 1);
    }

    private static void unitBytes() {
        Check.says("UNIT: p, b, s (a LEAD, CALLED plain, bob, single), a letter A .. F");
        for (int sign = 0; sign < 256; sign++) {
            String text = "p" + (char) sign + "p";
            if ("pbs".indexOf(sign) >= 0) {
                leads(text, 3);
            } else if (sign >= 'A' && sign <= 'F' || sign == ' ' || sign == '\n') {
                leads(text, 2);
            } else if (sign >= '2' && sign <= '9') {
                leads(text, 1 + sign - '0');
            } else if (sign == '0' || sign == '1') {
                fault(text, 1, 2);
            } else if (sign == '(') {
                fault(text, 3, 1);
            } else {
                fault(text, 1, 1);
            }
        }
    }

    private static void letters() {
        Check.says("(from here on LEADS are of that METHOD; A at first)");
        BellTower t = six();
        Check.compose(t, "pBpFpbAs");
        int[] due = {0, 1, 5, 5, 0};
        for (int i = 0; i < due.length; i++) {
            int lead = i;
            Check.due("method of lead " + i, due[i], () -> t.called(lead, 1));
        }
        Check.compose(t, "pF");
        Check.due("F behind the last lead is of none", 0, () -> t.called(0, 1));
        Check.compose(t, "p");
        Check.due("A at first in each text", 0, () -> t.called(0, 1));
        Check.compose(t, "Fp(!");
        Check.compose(t, "p");
        Check.due("behind a fault, too", 0, () -> t.called(0, 1));
    }

    private static void groups() {
        Check.says("or ( ITEMS ).");
        leads("(p)", 1);
        leads("(p(b)s)", 3);
        fault("(p", 2, 1);
        fault("((p)", 4, 1);
        fault("p)", 1, 1);
        fault(")", 0, 1);
        fault("(p))", 3, 1);
        fault(")(p", 0, 1);
    }

    private static void numbers() {
        Check.says("NUMBER: 2 to 99 (02 is 2), so many times one behind another");
        for (int i = 2; i <= 99; i++) {
            leads((i < 10 ? "0" : "") + i + "p", i);
            leads(i + "b", i);
        }
        leads("2(02p)", 4);
        leads("2(3(2ps)b)", 20);
        BellTower t = six();
        Check.compose(t, "2(2pb)");
        int[] due = {0, 0, 1, 0, 0, 1};
        for (int i = 0; i < due.length; i++) {
            int lead = i;
            Check.due("call " + i, due[i], () -> t.called(lead, 2));
        }
    }

    private static void methodGoesOn() {
        Check.says("(the METHOD goes on as it is)");
        BellTower t = six();
        Check.compose(t, "2(pB)p3C2(pDpE)p");
        int[] due = {0, 1, 1, 2, 3, 4, 3, 4};
        Check.due("eight leads", 8, () -> t.touch(0));
        for (int i = 0; i < due.length; i++) {
            int lead = i;
            Check.due("method of lead " + i, due[i], () -> t.called(lead, 1));
        }
        Check.compose(t, "99(99(2(99(99(AB)))))p");
        Check.due("no lead, but often", 1, () -> t.called(0, 1));
    }

    private static void blanks() {
        Check.says("Blanks anywhere but between digits.");
        String text = "22(pB02s)b";
        for (int at = 0; at <= text.length(); at++) {
            for (String blank : new String[] {" ", "\n", "\n  \n"}) {
                String broken = text.substring(0, at) + blank + text.substring(at);
                if (at == 1) {
                    fault(broken, 1 + blank.length(), 1);
                } else if (at == 6) {
                    fault(broken, 5, 2);
                } else {
                    leads(broken, 67);
                }
            }
        }
    }

    private static void blankSigns() {
        Check.says("Blanks anywhere but");
        for (int sign : new int[] {0, 9, 11, 12, 13, 31, 33, 42, 128 + 10, 128 + 32, 255}) {
            fault((char) sign + "p", 0, 1);
            fault("p" + (char) sign, 1, 1);
        }
    }

    private static void firstFault() {
        Check.says("FAULTS, the first along the text: 1 a byte that can't stand there (the end, too);");
        BellTower t = onlyB();
        Check.composeFault(t, "!1C", 0, 1);
        Check.composeFault(t, "1!C", 0, 2);
        Check.composeFault(t, "1C!", 0, 2);
        Check.composeFault(t, "C1!", 0, 3);
        Check.composeFault(t, "BC", 1, 3);
        Check.composeFault(t, "((((((1C!", 5, 4);
        Check.composeFault(t, "(((((1(C!", 5, 2);
        Check.composeFault(t, "(((((C(1!", 5, 3);
        Check.composeFault(t, "(((((!(C1", 5, 1);
        Check.composeFault(t, "(((((2(p", 6, 4);
    }

    private static void strayEnd() {
        Check.says("1 a byte that can't stand there (the end, too);");
        fault("", 0, 1);
        fault("   ", 3, 1);
        fault("p(", 2, 1);
        fault("(p", 2, 1);
        fault("(p \n", 4, 1);
        fault("p99", 3, 1);
        fault("p99\n", 4, 1);
        fault(" ".repeat(500), 500, 1);
        fault("(" + "p".repeat(499), 500, 1);
        leads("p".repeat(500), 500);
        leads("(" + "p".repeat(498) + ")", 498);
    }

    private static void wrongNumbers() {
        Check.says("2 a NUMBER that is not 2 to 99 or has more than two digits (at its first);");
        String[] numbers = {"0", "1", "00", "01", "000", "001", "002", "010", "099", "100", "200", "999", "1000", "4294967298"};
        for (String number : numbers) {
            fault(number + "p", 0, 2);
            fault(" p " + number + " p", 3, 2);
            fault("2(" + number + ")", 2, 2);
            fault("p" + number, 1, 2);
            fault(number + "!", 0, 2);
        }
        leads("2p", 2);
        leads("02p", 2);
        leads("99p", 99);
    }

    private static void untoldMethods() {
        Check.says("3 a letter of a METHOD that was not told, a p, b or s of A that was not (at it;");
        BellTower t = onlyB();
        for (String sign : new String[] {"p", "b", "s", "A", "C", "D", "E", "F"}) {
            Check.composeFault(t, sign, 0, 3);
            Check.composeFault(t, " 2 ( " + sign + "B)", 5, 3);
        }
        Check.due("B's lead alone", 3, () -> Check.compose(t, "Bpbs"));
        Check.composeFault(t, "BpF", 2, 3);
        Check.composeFault(t, "BpAp", 2, 3);
        BellTower gone = six();
        gone.stage(6);
        Check.composeFault(gone, "p", 0, 3);
        Check.composeFault(gone, "F", 0, 3);
    }

    private static void asItIsRead() {
        Check.says("as it is read, whatever NUMBERS tell);");
        BellTower t = onlyB();
        Check.composeFault(t, "2(pB)", 2, 3);
        Check.composeFault(t, "99(2(sB))", 5, 3);
        Check.composeFault(t, "99C", 2, 3);
        Check.due("B is rung from its letter on", 4, () -> Check.compose(t, "2(Bp)2p"));
        Check.due("a letter in a group goes on behind it", 1, () -> Check.compose(t, "(B)p"));
    }

    private static void tooDeep() {
        Check.says("4 a ( within five others (at it).");
        leads("(((((p)))))", 1);
        leads("(((((p)))))(((((p)))))", 2);
        leads("(p)(p)(p)(p)(p)(p)(p)", 7);
        leads("((((2(p)(p)))))", 3);
        fault("((((((p))))))", 5, 4);
        fault("(((((p(", 6, 4);
        fault("(((((2(p))))))", 6, 4);
        fault("(((((p))(((", 10, 4);
        fault("((((((", 5, 4);
        fault("(((((", 5, 1);
    }

    private static void tooManyLeads() {
        Check.says("Else: 5 more than 1000 LEADS (at how many bytes there are).");
        leads("10(99p)9pb", 1000);
        leads("10(99p)10p", 1000);
        fault("10(99p)11p", 10, 5);
        fault("10(99p)10pp", 11, 5);
        fault(" 10(99p)\n11p \n ", 15, 5);
        fault("11(91p)", 7, 5);
        fault("99(99(99(99(99(99p)))))", 23, 5);
        leads("10(25(4p))", 1000);
        fault("10(25(4p))s", 11, 5);
        leads("p".repeat(490) + "2(51(5p))", 1000);
        fault("p".repeat(491) + "2(51(5p))", 500, 5);
    }

    private static void otherFaultsFirst() {
        Check.says("Else: 5 more than 1000");
        fault("99(99p)!", 7, 1);
        fault("99(99p", 6, 1);
        fault("99(99p)1p", 7, 2);
        fault("99(99p)((((((", 12, 4);
        Check.composeFault(onlyB(), "B99(99p)C", 8, 3);
    }

    private static void digitsOfNumbers() {
        Check.says("(0 and 9 are digits only in NUMBERS.)");
        leads("9p", 9);
        leads("90p", 90);
        leads("09p", 9);
        Check.methodFault(8, "9;x;x", 0, 1);
        Check.methodFault(8, "0;x;x", 0, 1);
        Check.methodFault(8, "18;19;x", 4, 1);
        Check.methodFault(8, "18;x;10", 6, 1);
        Check.methodFault(8, "x1890;x;x", 3, 1);
        BellTower t = Check.tower(8, "x;x;x");
        Check.compose(t, "p");
        Check.due("no 9 in a pattern", -1, () -> Check.music(t, "9*"));
        Check.due("no 0 in a pattern", -1, () -> Check.music(t, "*0"));
    }

    private static void rowsOfTheTouch() {
        Check.says("all ROWS of its LEADS, the first HEAD being ROUNDS, numbered from 0 on;");
        BellTower t = Check.tower(4, ONE_ROW, "x.14;14;12");
        Check.compose(t, "pBp");
        int[] due = {1234, 2143, 1234};
        for (int i = 0; i < due.length; i++) {
            int asked = i;
            Check.due("row " + i, due[i], () -> t.row(asked));
        }
        Check.due("three rows", 3, () -> t.touch(1));
        Check.due("no row 3", Check.NOTHING, () -> t.row(3));
        Check.due("no row -1", Check.NOTHING, () -> t.row(-1));
    }

    private static void endOfTheTouch() {
        Check.says("the HEAD behind its last LEAD is its END.");
        BellTower t = Check.tower(4, ONE_ROW);
        String[] texts = {"p", "b", "s", "pb", "2p"};
        int[] due = {2143, 1324, 1243, 2413, 1234};
        for (int i = 0; i < texts.length; i++) {
            String text = texts[i];
            Check.compose(t, text);
            Check.due("END of " + text, due[i], () -> t.touch(5));
        }
        t.stage(4);
        Check.due("END without leads", 1234, () -> t.touch(5));
    }

    private static void trueTouch() {
        Check.says("It is TRUE, if no two ROWS of it are the same;");
        BellTower t = Check.tower(4, ONE_ROW);
        String[] texts = {"2p", "3p", "psps", "pspsp", "p", "pbb", "bb", "bbb"};
        int[] due = {1, 0, 1, 0, 1, 1, 1, 0};
        for (int i = 0; i < texts.length; i++) {
            String text = texts[i];
            Check.compose(t, text);
            Check.due("whether " + text + " is true", due[i], () -> t.touch(2));
        }
        BellTower all = Check.tower(4, "&x14x14,12;14;1234", "x.x;x;x");
        Check.compose(all, "3p");
        Check.due("all rows once", 1, () -> all.touch(2));
        Check.compose(all, "4p");
        Check.due("and the first again", 24, () -> all.touch(3));
        Check.compose(all, "B2p");
        Check.due("one method's lead twice", 2, () -> all.touch(3));
    }

    private static void roundTouch() {
        Check.says("ROUND, if its END is ROUNDS.");
        BellTower t = Check.tower(4, ONE_ROW);
        String[] texts = {"2p", "p", "3p", "4p", "psps"};
        int[] due = {1, 0, 0, 1, 1};
        for (int i = 0; i < texts.length; i++) {
            String text = texts[i];
            Check.compose(t, text);
            Check.due("whether " + text + " is round", due[i], () -> t.touch(6));
        }
        t.stage(4);
        Check.due("without leads", 1, () -> t.touch(6));
    }

    private static void orders() {
        Check.says("how many times it must be rung, each from the END of the one ahead, till the END is ROUNDS.");
        BellTower t = Check.tower(8, "38.14;x;x", "38;x;x", "x.18;x;x");
        String[] texts = {"p", "3p", "5p", "15p", "Bp", "Cp", "C2p", "C3p", "C8p"};
        int[] due = {15, 5, 3, 1, 2, 8, 4, 8, 1};
        for (int i = 0; i < texts.length; i++) {
            String text = texts[i];
            Check.compose(t, text);
            Check.due("order of " + text, due[i], () -> t.touch(7));
        }
        t.stage(8);
        Check.due("order without leads", 1, () -> t.touch(7));
    }

    private static void falseHeadsOfTwo() {
        Check.says("the HEADS h for which a LEAD of L from h has a ROW in common with one of M from ROUNDS;");
        BellTower t = Check.tower(4, "x;x;x", "14.x.14;x;x");
        Check.due("one row each", 1, () -> t.falseHeads(0, 0));
        Check.due("rounds alone", 1234, () -> t.falseHead(0, 0, 0));
        Check.due("no other", -1, () -> t.falseHead(0, 0, 1));
        Check.due("three rows and one", 3, () -> t.falseHeads(1, 0));
        Check.due("one row and three", 3, () -> t.falseHeads(0, 1));
        int[] ofM = {1234, 1324, 3142};
        int[] ofL = {1234, 1324, 2413};
        for (int k = 0; k < 3; k++) {
            int asked = k;
            Check.due("h is L's head: the rows of M", ofM[k], () -> t.falseHead(1, 0, asked));
            Check.due("h is L's head: from which rounds comes", ofL[k], () -> t.falseHead(0, 1, asked));
        }
    }

    private static void risingFalseHeads() {
        Check.says("in rising order (as numbers).");
        BellTower t = Check.tower(4, "&x14x14,12,&x14x14,12,&x14x14,12;14;1234");
        Check.due("all rows in a lead", 24, () -> t.falseHeads(0, 0));
        Check.due("the first", 1234, () -> t.falseHead(0, 0, 0));
        for (int k = 1; k < 24; k++) {
            int asked = k;
            Check.due("rising at " + k, true, t.falseHead(0, 0, asked) > t.falseHead(0, 0, asked - 1));
        }
        Check.due("the last", 4321, () -> t.falseHead(0, 0, 23));
        Check.due("none behind it", -1, () -> t.falseHead(0, 0, 24));
    }

    private static BellTower wholeMinimus() {
        BellTower t = Check.tower(4, "&x14x14,12;14;1234");
        Check.compose(t, "3p");
        return t;
    }

    private static void fits(String pattern, int due) {
        BellTower t = wholeMinimus();
        Check.due("music " + pattern, due, () -> Check.music(t, pattern));
        Check.due("the tape is empty", 0, () -> t.count(2));
    }

    private static void starAndAnyBell() {
        Check.says("a pattern has digits, ? (any bell), and at most one * (any number of any bells);");
        fits("*", 24);
        fits("????", 24);
        fits("?*", 24);
        fits("1*", 6);
        fits("1*4", 2);
        fits("?2?4", 2);
        fits("1234*", 1);
        fits("*1234", 1);
        fits("1*234", 1);
        fits("????*", 24);
        fits("**", -1);
        fits("*1*", -1);
        fits("1234**", -1);
        for (int sign = 0; sign < 256; sign++) {
            boolean good = "?*1234".indexOf(sign) >= 0;
            String pattern = (char) sign + (sign == '*' ? "" : "*");
            Check.due("byte " + sign, good, Check.music(wholeMinimus(), pattern) != -1);
            Check.due("byte " + sign + " at the end", good, Check.music(wholeMinimus(), "???" + (char) sign) != -1);
        }
    }

    private static void firstToLastPlace() {
        Check.says("a ROW that is so from its first to its last PLACE.");
        fits("21*", 2);
        fits("*21", 2);
        fits("?21?", 2);
        fits("2*1", 2);
        fits("2134", 1);
        fits("4321", 1);
        fits("???1", 6);
        BellTower t = wholeMinimus();
        t.stage(4);
        Check.due("no rows", 0, () -> Check.music(t, "*"));
    }

    private static void digitsTwice() {
        Check.says("(Others are none: digits told twice");
        fits("11*", -1);
        fits("1*1", -1);
        fits("1?1?", -1);
        fits("1231", -1);
        fits("4??4", -1);
        fits("1???1", -1);
    }

    private static void digitsAbove() {
        Check.says("(Others are none: digits told twice, above n;");
        fits("4*", 6);
        fits("5*", -1);
        fits("*8", -1);
        fits("???5", -1);
        BellTower t = Check.tower(5, "1;1;1");
        Check.compose(t, "p");
        Check.due("5 of 5", 1, () -> Check.music(t, "*5"));
        Check.due("6 of 5", -1, () -> Check.music(t, "*6"));
        t.stage(8);
        Check.due("8 of 8", 0, () -> Check.music(t, "*8"));
        Check.due("9", -1, () -> Check.music(t, "*9"));
        Check.due("0", -1, () -> Check.music(t, "*0"));
    }

    private static void tooManySigns() {
        Check.says("more than n signs, the * aside;");
        fits("????", 24);
        fits("?????", -1);
        fits("12*34", 1);
        fits("12*34?", -1);
        fits("*?????", -1);
        fits("?????*", -1);
        fits("?".repeat(500), -1);
        fits("*" + "?".repeat(499), -1);
    }

    private static void tooFewSigns() {
        Check.says("fewer without *.)");
        fits("", -1);
        fits("1", -1);
        fits("???", -1);
        fits("123", -1);
        fits("???*", 24);
        fits("123*", 1);
    }

    private static void found(BellTower t, int m, int looks, int answer, int looked) {
        Check.due("find of " + m + " within " + looks, answer, () -> t.find(0, m, looks));
        Check.due("looked at", looked, () -> t.count(3));
    }

    private static void roundsFirst() {
        Check.says("HEADS are looked at, ROUNDS first.");
        BellTower t = Check.tower(4, "1234;x;x");
        found(t, 1, 1, 0, 1);
        Check.due("its head", 1234, () -> t.called(0, 0));
        found(Check.tower(4, "x;x;x"), 1, 1, 1, 1);
    }

    /** The plain lead of these comes home, but its own rows come twice. */
    private static void refusedHeads() {
        Check.says("One that is looked at is refused, if its LEAD and those on the way to it have a ROW twice;");
        found(Check.tower(4, "x.x.x;14;1234"), 1, 3000, 1, 1);
        found(Check.tower(4, "x.x.x.x;14;1234"), 1, 3000, 1, 1);
        found(Check.tower(4, "x.x;14;1234"), 1, 3000, 0, 1);
        BellTower t = Check.tower(4, "1234;x;x");
        found(t, 2, 3, 0, 3);
        Check.due("bob", 1, () -> t.called(0, 2));
        Check.due("and bob", 1, () -> t.called(1, 2));
    }

    /** Behind a bob the second lead would come home, but its first row is one of the first lead. */
    private static void refusedOnTheWay() {
        Check.says("is refused, if its LEAD and those on the way to it have a ROW twice");
        found(Check.tower(4, "x.14;1234;1234"), 2, 3000, 1, 4);
        BellTower t = Check.tower(4, "&x14x14,12;14;1234");
        found(t, 2, 3000, 1, 4);
        found(t, 3, 3000, 0, 3);
    }

    private static void wayBack() {
        Check.says("those on the way to it have a ROW twice");
        BellTower t = Check.tower(6, BOB_MINOR);
        found(t, 6, 19, 0, 19);
        int[] calls = {0, 0, 1, 0, 0, 1};
        for (int i = 0; i < calls.length; i++) {
            int lead = i;
            Check.due("call " + i, calls[i], () -> t.called(lead, 2));
        }
    }

    private static void lastOfTheLeads() {
        Check.says("if it is the m-th: plain, bob, single, the first with which ROUNDS comes ends it;");
        String[] texts = {"1234;1234;1234", "x;1234;1234", "x;x;1234", "1234;x;1234"};
        int[] due = {0, 1, 2, 0};
        for (int i = 0; i < texts.length; i++) {
            BellTower t = Check.tower(4, texts[i]);
            found(t, 1, 1, 0, 1);
            Check.due("call of " + texts[i], due[i], () -> t.called(0, 2));
        }
        BellTower early = Check.tower(4, ONE_ROW);
        found(early, 3, 3000, 1, 13);
        found(early, 2, 3000, 0, 2);
        found(early, 4, 3000, 0, 9);
        Check.due("no earlier lead ends it", 4, () -> early.touch(0));
    }

    private static void orderOfTheLooks() {
        Check.says("else what comes by plain is looked at, then by bob, then by single, each with all that comes of it "
            + "ahead of the next.");
        BellTower t = Check.tower(4, ONE_ROW);
        found(t, 4, 9, 0, 9);
        int[] calls = {0, 2, 0, 2};
        int[] heads = {1234, 2143, 2134, 1243};
        for (int i = 0; i < calls.length; i++) {
            int lead = i;
            Check.due("call " + i, calls[i], () -> t.called(lead, 2));
            Check.due("head " + i, heads[i], () -> t.called(lead, 0));
        }
    }

    private static void nothingLeft() {
        Check.says("It ends without a touch, when nothing is left,");
        BellTower t = Check.tower(4, ONE_ROW);
        found(t, 3, 3000, 1, 13);
        found(t, 3, 14, 1, 13);
        found(t, 3, 13, 1, 13);
        found(Check.tower(4, "x;x;x"), 200, 3000, 1, 13);
        found(Check.tower(4, "x;x;x"), 200, 13, 1, 13);
    }

    private static void looksSpent() {
        Check.says("or when one more would be looked at than LOOKS tell.");
        BellTower t = Check.tower(4, ONE_ROW);
        found(t, 3, 12, 2, 12);
        found(t, 3, 1, 2, 1);
        found(t, 4, 8, 2, 8);
        found(t, 4, 9, 0, 9);
        found(t, 2, 1, 2, 1);
        found(t, 2, 2, 0, 2);
        BellTower many = Check.tower(8, "&x38x14x1258x36x14x58x16x78,12;14;1234");
        found(many, 200, 3000, 2, 3000);
        found(many, 200, 2999, 2, 2999);
    }
}
