import java.util.Random;
import java.util.function.IntSupplier;

/** Runs of calls, always the same ones, on a tower and on the model: each answer must be the same. */
public final class ModelTests {
    private static final String ODD_SIGNS = " x-.,;&+|0123456789pbsABCDEFG()?*!\n";

    private final Random random;
    private final BellTower tower = new BellTower();
    private final Model model = new Model();
    private final String name;
    private int bells = 6;
    private int calls = 0;

    private ModelTests(int run) {
        random = new Random(run);
        name = "run " + run;
    }

    public static void main(String[] args) {
        int runs = args.length > 0 ? Integer.parseInt(args[0]) : 400;
        int from = args.length > 1 ? Integer.parseInt(args[1]) : 0;
        for (int run = from; run < from + runs; run++) {
            new ModelTests(run).play();
        }
        Check.close("ModelTests");
    }

    private void play() {
        if (random.nextInt(8) > 0) {
            stage(random.nextInt(5) > 0 ? 4 + random.nextInt(3) : 7 + random.nextInt(2));
            for (int m = random.nextInt(8) > 0 ? 0 : 1; m < 3; m++) {
                method(m, random.nextBoolean() ? methodText() : rungMethod());
            }
        }
        // One step more stays within the 512 calls behind which answers are free.
        while (calls < 440) {
            step();
        }
    }

    private void same(String call, IntSupplier due, IntSupplier got) {
        calls++;
        Check.due(name + ", call " + calls + ": " + call, Check.answer(due), got);
    }

    private void stage(int n) {
        same("stage " + n, () -> model.stage(n), () -> tower.stage(n) ? 1 : 0);
        bells = tower.count(0);
    }

    private void tape(String text) {
        end(0);
        for (int at = 0; at < text.length() && at < 500; at += 20) {
            int[] w = new int[5];
            for (int i = 0; i < 5; i++) {
                w[i] = Check.word(text, at + 4 * i);
            }
            same("feed", () -> model.feed(w), () -> tower.feed(w[0], w[1], w[2], w[3], w[4]));
        }
        end(Math.min(500, text.length()));
    }

    private void end(int n) {
        same("end " + n, () -> model.end(n), () -> tower.end(n) ? 1 : 0);
    }

    private void method(int m, String text) {
        tape(text);
        same("method " + m + " '" + text + "' of " + bells, () -> model.method(m), () -> tower.method(m));
        same("fault", model::fault, tower::fault);
    }

    private void step() {
        switch (random.nextInt(16)) {
            case 0:
                String text = random.nextInt(3) > 0 ? methodText() : rungMethod();
                method(random.nextInt(random.nextInt(4) > 0 ? 3 : 6), spoiled(text, 2));
                break;
            case 1:
            case 2:
            case 3:
                tape(spoiled(random.nextInt(6) > 0 ? compositionText(0) : largeComposition(), 4));
                same("compose", model::compose, tower::compose);
                same("fault", model::fault, tower::fault);
                askTouch();
                break;
            case 4:
            case 5:
                tape(spoiled(patternText(), 6));
                same("music", model::music, tower::music);
                break;
            case 6:
                find();
                break;
            case 7:
                askOddly();
                break;
            case 8:
                if (random.nextInt(6) == 0) {
                    stage(2 + random.nextInt(9));
                }
                break;
            case 9:
                askFalse();
                break;
            default:
                askMethod();
        }
    }

    private void askTouch() {
        for (int what = 0; what <= 10; what++) {
            int asked = what;
            same("touch " + what, () -> model.touch(asked), () -> tower.touch(asked));
        }
        same("whole", model::whole, tower::whole);
        for (int i = 0; i < 3; i++) {
            int lead = random.nextInt(Math.max(1, tower.touch(0)) + 1);
            int row = random.nextInt(Math.max(1, tower.touch(1)) + 1);
            int what = random.nextInt(4);
            same("called " + lead + " " + what, () -> model.called(lead, what), () -> tower.called(lead, what));
            same("row " + row, () -> model.row(row), () -> tower.row(row));
        }
    }

    private void askMethod() {
        int m = random.nextInt(random.nextInt(4) > 0 ? 3 : 6);
        int k = random.nextInt(66) - 1;
        int far = random.nextInt(3) == 0 ? random.nextInt() : random.nextInt(200);
        int bell = random.nextInt(bells + 2);
        int call = random.nextInt(5) - 1;
        same("lead " + m + " " + k, () -> model.lead(m, k), () -> tower.lead(m, k));
        same("head " + m + " " + call, () -> model.head(m, call), () -> tower.head(m, call));
        same("course " + m, () -> model.course(m), () -> tower.course(m));
        same("line " + m + " " + bell + " " + far, () -> model.line(m, bell, far), () -> tower.line(m, bell, far));
    }

    private void askFalse() {
        int m = random.nextInt(3);
        int l = random.nextInt(3);
        same("falseHeads " + m + " " + l, () -> model.falseHeads(m, l), () -> tower.falseHeads(m, l));
        for (int i = 0; i < 4; i++) {
            int k = random.nextInt(30) * random.nextInt(i + 1) - 1;
            same("falseHead " + m + " " + l + " " + k, () -> model.falseHead(m, l, k), () -> tower.falseHead(m, l, k));
        }
    }

    private void find() {
        int method = random.nextInt(random.nextInt(9) > 0 ? 3 : 4);
        int m = 1 + random.nextInt(random.nextInt(5) > 0 ? 9 : 203) - random.nextInt(20) / 19;
        int looks = random.nextInt(random.nextInt(5) > 0 ? 300 : 3010);
        same("find " + method + " " + m + " " + looks, () -> model.find(method, m, looks), () -> tower.find(method, m, looks));
        same("count 3", () -> model.count(3), () -> tower.count(3));
        askTouch();
    }

    private void askOddly() {
        int[] odd = {-1, 0, 1, 4, 6, 8, 11, 100, 501, Integer.MAX_VALUE, Integer.MIN_VALUE, random.nextInt()};
        int a = odd[random.nextInt(odd.length)];
        int b = odd[random.nextInt(odd.length)];
        int c = odd[random.nextInt(odd.length)];
        same("lead " + a + " " + b, () -> model.lead(a, b), () -> tower.lead(a, b));
        same("head " + a + " " + b, () -> model.head(a, b), () -> tower.head(a, b));
        same("course " + a, () -> model.course(a), () -> tower.course(a));
        same("line " + a + " " + b + " " + c, () -> model.line(a, b, c), () -> tower.line(a, b, c));
        same("falseHeads " + a + " " + b, () -> model.falseHeads(a, b), () -> tower.falseHeads(a, b));
        same("falseHead " + a + " " + b, () -> model.falseHead(a, b, c), () -> tower.falseHead(a, b, c));
        same("touch " + a, () -> model.touch(a), () -> tower.touch(a));
        same("called " + a + " " + b, () -> model.called(a, b), () -> tower.called(a, b));
        same("row " + a, () -> model.row(a), () -> tower.row(a));
        same("count " + a, () -> model.count(a), () -> tower.count(a));
        same("find " + a + " " + b + " " + c, () -> model.find(a, b, c), () -> tower.find(a, b, c));
        same("end " + a, () -> model.end(a), () -> tower.end(a) ? 1 : 0);
        same("method " + a, () -> model.method(a), () -> tower.method(a));
        same("count 1", () -> model.count(1), () -> tower.count(1));
        same("count 2", () -> model.count(2), () -> tower.count(2));
    }

    private String blank() {
        return random.nextInt(12) > 0 ? "" : random.nextBoolean() ? " " : "\n ";
    }

    private String change() {
        if (bells % 2 == 0 && random.nextInt(3) == 0) {
            return random.nextBoolean() ? "x" : "-";
        }
        StringBuilder made = new StringBuilder();
        for (int place = 1; place <= bells; place++) {
            if (place == bells || random.nextInt(3) == 0) {
                made.append(place);
            } else {
                place++;
            }
        }
        if (made.length() == 0) {
            return "1" + (bells % 2 == 0 ? "" + bells : "");
        }
        return random.nextInt(12) > 0 ? made.toString() : "" + (1 + random.nextInt(8));
    }

    private String methodText() {
        StringBuilder text = new StringBuilder();
        int blocks = 1 + random.nextInt(random.nextInt(3) + 1);
        int most = random.nextInt(6) > 0 ? 8 : 36;
        for (int i = 0; i < blocks; i++) {
            text.append(i > 0 ? "," : "").append(blank());
            text.append(random.nextInt(3) == 0 ? "&" : random.nextInt(6) == 0 ? "+" : "").append(blank());
            boolean digits = false;
            for (int k = random.nextInt(most); k >= 0; k--) {
                String change = change();
                boolean more = Character.isDigit(change.charAt(0));
                text.append(digits && more || digits != more && k > 0 && random.nextInt(9) == 0 && endsWithChange(text) ? "." : "");
                text.append(blank()).append(change).append(blank());
                digits = more;
            }
        }
        return text.append(";").append(change()).append(blank()).append(";").append(blank()).append(change()).toString();
    }

    private static boolean endsWithChange(StringBuilder text) {
        return text.length() > 0 && "x-12345678".indexOf(text.charAt(text.length() - 1)) >= 0;
    }

    /** Methods as they are rung, whose compositions come home more often. */
    private String rungMethod() {
        String[][] all = {
            {"&x14x14,12;14;1234", "&x14x34,12;14;1234", "&34.14.12.14,12;14;1234"},
            {"5.1.5.1.5,1;3;345", "&5.1.5.1.5,2;145;12345", "5.1;3;123"},
            {"&x16x16x16,12;14;1234", "&x36x14x12x36x14x56,12;14;1234", "&x34x14x12x16x12x16,12;14;1456"},
            {"7.1.7.1.7.1.7,1;3;345", "&7.1.7.1.7.1.7,2;147;12347", "3.1.7.1.7.1,1;3;345"},
            {"&x18x18x18x18,12;14;1234", "&x38x14x1258x36x14x58x16x78,12;14;1234", "&x58x14.58x58.36.14x14.58x14x18,18;16;1678"},
        };
        return all[bells - 4][random.nextInt(3)];
    }

    private String largeComposition() {
        int deep = random.nextInt(7);
        String unit = "pbsppbs(pb)".substring(random.nextInt(5)).substring(0, 2) + (random.nextInt(4) == 0 ? "B" : "");
        if (random.nextBoolean()) {
            return "(".repeat(deep) + "3" + unit + ")".repeat(deep);
        }
        StringBuilder text = new StringBuilder();
        for (int i = 1 + random.nextInt(3); i > 0; i--) {
            text.append(2 + random.nextInt(random.nextBoolean() ? 20 : 98)).append('(');
            text.append(2 + random.nextInt(random.nextBoolean() ? 20 : 98)).append(unit).append(')').append(blank());
        }
        return text.toString();
    }

    private String compositionText(int depth) {
        StringBuilder text = new StringBuilder();
        for (int items = random.nextInt(6 - Math.min(depth, 4)); items >= 0; items--) {
            text.append(blank());
            if (random.nextInt(3) == 0) {
                text.append(random.nextInt(9) == 0 ? random.nextInt(130) : 2 + random.nextInt(4)).append(blank());
            }
            int kind = random.nextInt(10);
            if (kind < 6) {
                text.append("pppbbs".charAt(kind));
            } else if (kind < 8) {
                text.append("AABBBCCCAABBBCCCD".charAt(random.nextInt(17)));
            } else if (depth < (random.nextInt(20) == 0 ? 7 : 5)) {
                text.append("(").append(compositionText(depth + 1)).append(")");
            } else {
                text.append("p");
            }
            text.append(blank());
        }
        return text.toString();
    }

    private String patternText() {
        StringBuilder all = new StringBuilder("12345678".substring(0, bells));
        StringBuilder text = new StringBuilder();
        int star = random.nextInt(3) > 0 ? random.nextInt(bells + 1) : -1;
        int skipped = star < 0 ? 0 : random.nextInt(bells);
        for (int i = 0; i <= bells - skipped; i++) {
            if (i == star) {
                text.append('*');
            }
            if (i < bells - skipped) {
                int at = random.nextInt(all.length());
                text.append(random.nextInt(3) > 0 ? '?' : all.charAt(at));
                all.deleteCharAt(at);
            }
        }
        return text.toString();
    }

    /** The text, but one time in so many with some bytes put in, taken out or made others. */
    private String spoiled(String text, int oneIn) {
        StringBuilder spoiled = new StringBuilder(text);
        if (random.nextInt(oneIn) == 0) {
            for (int i = random.nextInt(3); i >= 0; i--) {
                int at = random.nextInt(spoiled.length() + 1);
                char sign = ODD_SIGNS.charAt(random.nextInt(ODD_SIGNS.length()));
                int kind = random.nextInt(3);
                if (kind == 0 || at == spoiled.length()) {
                    spoiled.insert(at, sign);
                } else if (kind == 1) {
                    spoiled.deleteCharAt(at);
                } else {
                    spoiled.setCharAt(at, sign);
                }
            }
        }
        return spoiled.toString();
    }
}
