import java.util.ArrayList;
import java.util.HashMap;
import java.util.HashSet;
import java.util.LinkedHashMap;
import java.util.List;
import java.util.Map;
import java.util.NoSuchElementException;
import java.util.Set;
import java.util.TreeSet;
import java.util.regex.Matcher;
import java.util.regex.Pattern;

/**
 * The document written a second time, plainly and slowly, with the Java library: rows are texts, all rows of a touch
 * are kept, false heads are tried one by one, and a byte that can't stand is found by asking a pattern of the whole
 * text whether what came so far could still become one.
 */
final class Model {
    private static final String BLANKS = "[ \\n]*";
    private static final Pattern METHOD = methodPattern();
    private static final Pattern COMPOSITION = compositionPattern();

    private record Fault(int place, int kind) {
    }

    private record Method(List<Set<Integer>> changes, Set<Integer> bob, Set<Integer> single) {
    }

    private record Lead(int method, int call) {
    }

    private int bells = 6;
    private String tape = "";
    private int faultKind = 0;
    private int looked = 0;
    private Map<Integer, Method> methods = new HashMap<>();
    private List<Lead> leads = new ArrayList<>();
    private List<String> rows = new ArrayList<>();
    private List<Integer> firsts = new ArrayList<>();
    private String ending = "123456";
    private final Map<List<Integer>, List<String>> falseHeads = new HashMap<>();

    private static Pattern methodPattern() {
        String digits = "[1-8]+" + BLANKS;
        String cross = "[x-]" + BLANKS;
        String undotted = "(?:" + digits + "(?:" + cross + "(?:" + digits + ")?)*|(?:" + cross + "(?:" + digits + ")?)+)";
        String block = "(?:[&+]" + BLANKS + ")?" + undotted + "(?:\\." + BLANKS + undotted + ")*";
        String one = "(?:" + digits + "|" + cross + ")";
        return Pattern.compile(BLANKS + block + "(?:," + BLANKS + block + ")*;" + BLANKS + one + ";" + BLANKS + one);
    }

    private static Pattern compositionPattern() {
        String unit = "[pbsA-F]" + BLANKS;
        for (int depth = 0; depth < 6; depth++) {
            unit = "(?:[pbsA-F]" + BLANKS + "|\\(" + BLANKS + "(?:(?:[0-9]+" + BLANKS + ")?" + unit + ")+\\)" + BLANKS + ")";
        }
        return Pattern.compile(BLANKS + "(?:(?:[0-9]+" + BLANKS + ")?" + unit + ")+");
    }

    /** The first byte with which no text of this pattern begins, or how many there are; NONE without one. */
    private static int strayPlace(Pattern pattern, String text) {
        for (int length = 0; length <= text.length(); length++) {
            Matcher matcher = pattern.matcher(text.substring(0, length));
            boolean whole = matcher.matches();
            if (!whole && !matcher.hitEnd()) {
                return length - 1;
            }
            if (length == text.length() && !whole) {
                return length;
            }
        }
        return -1;
    }

    private static Fault earlier(Fault one, Fault other) {
        if (one == null || (other != null && other.place() < one.place())) {
            return other;
        }
        return one;
    }

    int feed(int... words) {
        if (tape.length() + 20 > 500) {
            return -1;
        }
        StringBuilder more = new StringBuilder(tape);
        for (int word : words) {
            for (int i = 3; i >= 0; i--) {
                more.append((char) (word >>> 8 * i & 255));
            }
        }
        tape = more.toString();
        return tape.length();
    }

    int end(int n) {
        if (n < 0 || n > tape.length()) {
            return 0;
        }
        tape = tape.substring(0, n);
        return 1;
    }

    int stage(int n) {
        if (n < 4 || n > 8) {
            return 0;
        }
        bells = n;
        methods = new HashMap<>();
        falseHeads.clear();
        ring(new ArrayList<>());
        return 1;
    }

    private String rounds() {
        return "12345678".substring(0, bells);
    }

    private Set<Integer> made(String change) {
        Set<Integer> made = new TreeSet<>();
        if (change.equals("x") || change.equals("-")) {
            return bells % 2 == 0 ? made : null;
        }
        int last = 0;
        for (char digit : change.toCharArray()) {
            int place = digit - '0';
            if (place <= last || place > bells) {
                return null;
            }
            made.add(place);
            last = place;
        }
        int first = change.charAt(0) - '0';
        if ((first - 1) % 2 == 1) {
            made.add(1);
        }
        if ((bells - last) % 2 == 1) {
            made.add(bells);
        }
        int free = 0;
        for (int place = 1; place <= bells + 1; place++) {
            if (place > bells || made.contains(place)) {
                if (free % 2 == 1) {
                    return null;
                }
                free = 0;
            } else {
                free++;
            }
        }
        return made;
    }

    private String changed(String row, Set<Integer> made) {
        StringBuilder next = new StringBuilder();
        for (int place = 1; place <= bells; place++) {
            if (made.contains(place)) {
                next.append(row.charAt(place - 1));
            } else {
                next.append(row.charAt(place)).append(row.charAt(place - 1));
                place++;
            }
        }
        return next.toString();
    }

    private List<Set<Integer>> block(String text) {
        List<Set<Integer>> changes = new ArrayList<>();
        Matcher matcher = Pattern.compile("[x-]|[1-8]+").matcher(text);
        while (matcher.find()) {
            changes.add(made(matcher.group()));
        }
        if (text.contains("&")) {
            for (int i = changes.size() - 2; i >= 0; i--) {
                changes.add(changes.get(i));
            }
        }
        return changes;
    }

    private List<Set<Integer>> blocks(String text) {
        List<Set<Integer>> changes = new ArrayList<>();
        for (String block : text.split(",")) {
            changes.addAll(block(block));
        }
        return changes;
    }

    private Fault methodFault(String text) {
        int stray = strayPlace(METHOD, text);
        Fault first = stray < 0 ? null : new Fault(stray, 1);
        String good = stray < 0 ? text : text.substring(0, stray);
        Matcher matcher = Pattern.compile("[x-]|[1-8]+").matcher(good);
        while (matcher.find()) {
            if (made(matcher.group()) == null) {
                first = earlier(first, new Fault(matcher.start(), 2));
            }
        }
        for (int i = 0; i < good.length(); i++) {
            boolean blockEnds = good.charAt(i) == ',' || good.charAt(i) == ';';
            if (blockEnds && !good.substring(0, i).contains(";") && blocks(good.substring(0, i)).size() > 64) {
                first = earlier(first, new Fault(i, 3));
            }
        }
        return first;
    }

    int method(int m) {
        if (m < 0 || m > 5) {
            throw new IndexOutOfBoundsException();
        }
        String text = tape;
        tape = "";
        Fault fault = methodFault(text);
        faultKind = fault == null ? 0 : fault.kind();
        if (fault != null) {
            return -1 - fault.place();
        }
        String[] parts = text.split(";");
        Method told = new Method(blocks(parts[0]), block(parts[1]).get(0), block(parts[2]).get(0));
        methods.put(m, told);
        falseHeads.clear();
        ring(new ArrayList<>());
        return told.changes().size();
    }

    private Fault compositionFault(String text) {
        int stray = strayPlace(COMPOSITION, text);
        Fault first = stray < 0 ? null : new Fault(stray, 1);
        String good = stray < 0 ? text : text.substring(0, stray);
        Matcher matcher = Pattern.compile("[0-9]+").matcher(good);
        while (matcher.find()) {
            String number = matcher.group();
            if (number.length() > 2 || Integer.parseInt(number) < 2) {
                first = earlier(first, new Fault(matcher.start(), 2));
            }
        }
        int current = 0;
        int depth = 0;
        for (int i = 0; i < good.length(); i++) {
            char sign = good.charAt(i);
            if (sign >= 'A' && sign <= 'F') {
                current = sign - 'A';
            }
            if ("pbsABCDEF".indexOf(sign) >= 0 && !methods.containsKey(current)) {
                first = earlier(first, new Fault(i, 3));
            }
            depth += sign == '(' ? 1 : sign == ')' ? -1 : 0;
            if (sign == '(' && depth > 5) {
                first = earlier(first, new Fault(i, 4));
            }
        }
        return first;
    }

    /** How many leads the items of this text have; it has no faults. */
    private static long many(String text) {
        long many = 0;
        for (Map.Entry<Integer, String> item : items(text).entrySet()) {
            String unit = unitOf(item.getValue());
            long once = unit.startsWith("(") ? many(unit.substring(1, unit.length() - 1)) : "pbs".contains(unit) ? 1 : 0;
            many += timesOf(item.getValue()) * once;
        }
        return many;
    }

    private static Map<Integer, String> items(String text) {
        Map<Integer, String> items = new LinkedHashMap<>();
        int depth = 0;
        int from = 0;
        for (int i = 0; i < text.length(); i++) {
            char sign = text.charAt(i);
            depth += sign == '(' ? 1 : sign == ')' ? -1 : 0;
            if (depth == 0 && !Character.isDigit(sign)) {
                items.put(from, text.substring(from, i + 1));
                from = i + 1;
            }
        }
        return items;
    }

    private static String unitOf(String item) {
        return item.replaceFirst("^[0-9]*", "");
    }

    private static int timesOf(String item) {
        String number = item.substring(0, item.length() - unitOf(item).length());
        return number.isEmpty() ? 1 : Integer.parseInt(number);
    }

    private static int spread(String text, int method, List<Lead> into) {
        int current = method;
        for (String item : items(text).values()) {
            String unit = unitOf(item);
            boolean group = unit.startsWith("(");
            int times = group && many(unit) == 0 ? 1 : timesOf(item);
            for (int i = 0; i < times; i++) {
                if (group) {
                    current = spread(unit.substring(1, unit.length() - 1), current, into);
                } else if ("pbs".contains(unit)) {
                    into.add(new Lead(current, "pbs".indexOf(unit)));
                } else {
                    current = unit.charAt(0) - 'A';
                }
            }
        }
        return current;
    }

    int compose() {
        String text = tape;
        tape = "";
        Fault fault = compositionFault(text);
        String signs = text.replaceAll("[ \n]", "");
        if (fault == null && many(signs) > 1000) {
            fault = new Fault(text.length(), 5);
        }
        faultKind = fault == null ? 0 : fault.kind();
        if (fault != null) {
            return -1 - fault.place();
        }
        List<Lead> composed = new ArrayList<>();
        spread(signs, 0, composed);
        ring(composed);
        return leads.size();
    }

    private void ring(List<Lead> composed) {
        leads = composed;
        rows = new ArrayList<>();
        firsts = new ArrayList<>();
        ending = rounds();
        for (Lead lead : leads) {
            firsts.add(rows.size());
            rows.addAll(rowsFrom(methods.get(lead.method()), ending));
            ending = behind(methods.get(lead.method()), ending, lead.call());
        }
    }

    private List<String> rowsFrom(Method method, String head) {
        List<String> all = new ArrayList<>();
        String row = head;
        for (Set<Integer> change : method.changes()) {
            all.add(row);
            row = changed(row, change);
        }
        return all;
    }

    private String behind(Method method, String head, int call) {
        List<String> all = rowsFrom(method, head);
        Set<Integer> last = method.changes().get(all.size() - 1);
        return changed(all.get(all.size() - 1), call == 0 ? last : call == 1 ? method.bob() : method.single());
    }

    int fault() {
        return faultKind;
    }

    private Method told(int m) {
        Method method = methods.get(m);
        if (method == null) {
            throw new NoSuchElementException();
        }
        return method;
    }

    private static void need(boolean so) {
        if (!so) {
            throw new NoSuchElementException();
        }
    }

    int lead(int m, int k) {
        List<String> all = rowsFrom(told(m), rounds());
        all.add(behind(told(m), rounds(), 0));
        need(k >= 0 && k < all.size());
        return Integer.parseInt(all.get(k));
    }

    int head(int m, int call) {
        told(m);
        need(call >= 0 && call <= 2);
        return Integer.parseInt(behind(told(m), rounds(), call));
    }

    private List<String> courseRows(Method method) {
        List<String> all = new ArrayList<>();
        String head = rounds();
        do {
            all.addAll(rowsFrom(method, head));
            head = behind(method, head, 0);
        } while (!head.equals(rounds()));
        return all;
    }

    int course(int m) {
        return courseRows(told(m)).size() / told(m).changes().size();
    }

    int line(int m, int bell, int k) {
        List<String> all = courseRows(told(m));
        need(bell >= 1 && bell <= bells && k >= 0);
        return 1 + all.get(k % all.size()).indexOf('0' + bell);
    }

    private List<String> falseHeadsOf(int m, int l) {
        Method one = told(m);
        Method other = told(l);
        return falseHeads.computeIfAbsent(List.of(m, l), key -> {
            Set<String> rung = new HashSet<>(rowsFrom(one, rounds()));
            List<String> shifts = rowsFrom(other, rounds());
            List<String> found = new ArrayList<>();
            for (String head : allRows("", rounds())) {
                boolean common = false;
                for (String shift : shifts) {
                    StringBuilder row = new StringBuilder();
                    for (char place : shift.toCharArray()) {
                        row.append(head.charAt(place - '1'));
                    }
                    common |= rung.contains(row.toString());
                }
                if (common) {
                    found.add(head);
                }
            }
            return found;
        });
    }

    private static List<String> allRows(String begun, String left) {
        List<String> all = new ArrayList<>();
        if (left.isEmpty()) {
            all.add(begun);
        }
        for (int i = 0; i < left.length(); i++) {
            all.addAll(allRows(begun + left.charAt(i), left.substring(0, i) + left.substring(i + 1)));
        }
        return all;
    }

    int falseHeads(int m, int l) {
        return falseHeadsOf(m, l).size();
    }

    int falseHead(int m, int l, int k) {
        List<String> all = falseHeadsOf(m, l);
        return k >= 0 && k < all.size() ? Integer.parseInt(all.get(k)) : -1;
    }

    private static int firstRepeat(List<String> all) {
        Set<String> before = new HashSet<>();
        for (int i = 0; i < all.size(); i++) {
            if (!before.add(all.get(i))) {
                return i;
            }
        }
        return -1;
    }

    private int order() {
        int times = 1;
        for (String row = ending; !row.equals(rounds()); row = after(row, ending)) {
            times++;
        }
        return times;
    }

    private static String after(String head, String row) {
        StringBuilder all = new StringBuilder();
        for (char place : row.toCharArray()) {
            all.append(head.charAt(place - '1'));
        }
        return all.toString();
    }

    int touch(int what) {
        int repeat = firstRepeat(rows);
        int turns = 0;
        int bobs = 0;
        int singles = 0;
        for (int i = 0; i < leads.size(); i++) {
            turns += i > 0 && leads.get(i).method() != leads.get(i - 1).method() ? 1 : 0;
            bobs += leads.get(i).call() == 1 ? 1 : 0;
            singles += leads.get(i).call() == 2 ? 1 : 0;
        }
        int[] answers = {leads.size(), rows.size(), repeat < 0 ? 1 : 0, repeat, repeat < 0 ? -1 : rows.indexOf(rows.get(repeat)),
            Integer.parseInt(ending), ending.equals(rounds()) ? 1 : 0, order(), bobs, singles, turns};
        return what >= 0 && what < answers.length ? answers[what] : -1;
    }

    int called(int i, int what) {
        need(i >= 0 && i < leads.size() && what >= 0 && what <= 3);
        Lead lead = leads.get(i);
        int[] answers = {Integer.parseInt(rows.get(firsts.get(i))), lead.method(), lead.call(), firsts.get(i)};
        return answers[what];
    }

    int row(int i) {
        need(i >= 0 && i < rows.size());
        return Integer.parseInt(rows.get(i));
    }

    int music() {
        String text = tape;
        tape = "";
        String bell = "[1-" + bells + "]";
        boolean good = text.matches("(?:" + bell + "|\\?)*\\*?(?:" + bell + "|\\?)*");
        String signs = text.replace("*", "");
        String digits = signs.replace("?", "");
        good &= digits.chars().distinct().count() == digits.length();
        good &= signs.length() == bells || (signs.length() < bells && text.contains("*"));
        if (!good) {
            return -1;
        }
        Pattern pattern = Pattern.compile(text.replace("?", ".").replace("*", ".*"));
        int many = 0;
        for (String row : rows) {
            many += pattern.matcher(row).matches() ? 1 : 0;
        }
        return many;
    }

    int whole() {
        if (order() * leads.size() > 1000) {
            return -1;
        }
        List<String> all = new ArrayList<>();
        String head = rounds();
        do {
            for (String row : rows) {
                all.add(after(head, row));
            }
            head = after(head, ending);
        } while (!head.equals(rounds()));
        return firstRepeat(all) < 0 ? 1 : 0;
    }

    int find(int method, int m, int looks) {
        if (m < 1 || m > 200 || looks < 1 || looks > 3000) {
            throw new IllegalArgumentException();
        }
        told(method);
        looked = 0;
        List<Lead> way = new ArrayList<>();
        int answer = look(method, m, looks, rounds(), new ArrayList<>(), way);
        if (answer == 0) {
            ring(way);
        }
        return answer;
    }

    private int look(int method, int m, int looks, String head, List<String> rung, List<Lead> way) {
        if (looked == looks) {
            return 2;
        }
        looked++;
        List<String> all = new ArrayList<>(rung);
        all.addAll(rowsFrom(methods.get(method), head));
        if (firstRepeat(all) >= 0) {
            return 1;
        }
        for (int call = 0; call < 3; call++) {
            String next = behind(methods.get(method), head, call);
            way.add(new Lead(method, call));
            if (way.size() == m && next.equals(rounds())) {
                return 0;
            }
            if (way.size() < m) {
                int answer = look(method, m, looks, next, all, way);
                if (answer != 1) {
                    return answer;
                }
            }
            way.remove(way.size() - 1);
        }
        return 1;
    }

    int count(int what) {
        int[] answers = {bells, methods.size(), tape.length(), looked};
        return what >= 0 && what < answers.length ? answers[what] : -1;
    }
}
