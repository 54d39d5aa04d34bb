import java.util.NoSuchElementException;

/** A bell tower where ringing by changes is planned; ../shared/DOC.md says what each call answers. */
public final class BellTower {
    public static final int NONE = -1;

    private static final int FEWEST_BELLS = 4;
    private static final int MOST_BELLS = 8;
    private static final int FIRST_BELLS = 6;
    private static final int ALL_ROWS = 40320;
    private static final int MOST_METHODS = 6;
    private static final int MOST_BYTES = 500;
    private static final int FED_BYTES = 20;
    private static final int MOST_CHANGES = 64;
    private static final int MOST_LEADS = 1000;
    private static final int MOST_FOUND_LEADS = 200;
    private static final int MOST_LOOKS = 3000;
    private static final int MOST_DEPTH = 5;
    private static final int MOST_TIMES = 99;

    private static final int PLAIN = 0;
    private static final int BOB = 1;
    private static final int SINGLE = 2;
    private static final int CALLS = 3;

    /** What the tape tells behind its last byte; no byte is so. */
    private static final int END_SIGN = -1;

    private static final int STRAY_BYTE = 1;
    private static final int WRONG_DIGITS = 2;
    private static final int TOO_MANY_CHANGES = 3;
    private static final int UNTOLD_METHOD = 3;
    private static final int TOO_DEEP = 4;
    private static final int TOO_MANY_LEADS = 5;

    private static final int FOUND = 0;
    private static final int NOTHING_LEFT = 1;
    private static final int LOOKS_SPENT = 2;

    private int bells = FIRST_BELLS;
    private int faultKind = 0;
    private final Tape tape;
    private final Book book;
    private final Seen seen;
    private final MethodText methodText;
    private final CompositionText compositionText;
    private final Plan plan;
    private final Search search;

    public BellTower() {
        Book methods = new Book();
        Seen rows = new Seen();
        tape = new Tape();
        book = methods;
        seen = rows;
        methodText = new MethodText();
        compositionText = new CompositionText(methods);
        plan = new Plan(methods, rows, FIRST_BELLS);
        search = new Search(rows);
    }

    public int feed(int a, int b, int c, int d, int e) {
        if (tape.size() + FED_BYTES > MOST_BYTES) {
            return NONE;
        }
        tape.addNumber(a);
        tape.addNumber(b);
        tape.addNumber(c);
        tape.addNumber(d);
        tape.addNumber(e);
        return tape.size();
    }

    public boolean end(int n) {
        if (n < 0 || n > tape.size()) {
            return false;
        }
        tape.cut(n);
        return true;
    }

    public boolean stage(int n) {
        if (n < FEWEST_BELLS || n > MOST_BELLS) {
            return false;
        }
        bells = n;
        book.clear();
        plan.clear(n);
        return true;
    }

    public int method(int m) throws IndexOutOfBoundsException {
        if (m < 0 || m >= MOST_METHODS) {
            throw new IndexOutOfBoundsException("no such method");
        }
        methodText.begin(bells);
        boolean good = methodText.readThrough(tape);
        tape.cut(0);
        faultKind = methodText.kind();
        if (!good) {
            return -1 - methodText.place();
        }
        book.at(m).copyFrom(methodText.draft());
        plan.clear(bells);
        return book.at(m).size();
    }

    public int compose() {
        compositionText.begin();
        boolean good = compositionText.readThrough(tape);
        if (good) {
            good = compositionText.spread(tape.size());
        }
        tape.cut(0);
        faultKind = compositionText.kind();
        if (!good) {
            return -1 - compositionText.place();
        }
        plan.clear(bells);
        for (int i = 0; i < compositionText.size(); i++) {
            plan.add(compositionText.letterOf(i), compositionText.callOf(i));
        }
        return plan.size();
    }

    public int fault() {
        return faultKind;
    }

    public int lead(int m, int k) throws NoSuchElementException {
        Method told = toldMethod(m);
        if (k < 0 || k > told.size()) {
            throw new NoSuchElementException("no such row of the lead");
        }
        return Rows.told(told.rowFrom(Rows.rounds(bells), k), bells);
    }

    public int head(int m, int call) throws NoSuchElementException {
        Method told = toldMethod(m);
        if (call < PLAIN || call > SINGLE) {
            throw new NoSuchElementException("no such call");
        }
        return Rows.told(told.following(Rows.rounds(bells), call), bells);
    }

    public int course(int m) throws NoSuchElementException {
        return toldMethod(m).courseLeads();
    }

    public int line(int m, int bell, int k) throws NoSuchElementException {
        Method told = toldMethod(m);
        if (bell < 1 || bell > bells || k < 0) {
            throw new NoSuchElementException("no such bell or row");
        }
        return 1 + Rows.placeOf(told.courseRow(k), bell - 1, bells);
    }

    public int falseHeads(int m, int l) throws NoSuchElementException {
        return noteFalseHeads(toldMethod(m), toldMethod(l));
    }

    public int falseHead(int m, int l, int k) throws NoSuchElementException {
        noteFalseHeads(toldMethod(m), toldMethod(l));
        int found = seen.risingRow(k);
        return found == NONE ? NONE : Rows.told(found, bells);
    }

    public int touch(int what) {
        switch (what) {
            case 0: return plan.size();
            case 1: return plan.rows();
            case 2: return oneIf(plan.repeated() == NONE);
            case 3: return plan.repeated();
            case 4: return plan.repeatedFrom();
            case 5: return Rows.told(plan.ending(), bells);
            case 6: return oneIf(plan.ending() == Rows.rounds(bells));
            case 7: return plan.order();
            case 8: return plan.calls(BOB);
            case 9: return plan.calls(SINGLE);
            case 10: return plan.methodChanges();
            default: return NONE;
        }
    }

    public int called(int i, int what) throws NoSuchElementException {
        if (i < 0 || i >= plan.size()) {
            throw new NoSuchElementException("no such lead");
        }
        switch (what) {
            case 0: return Rows.told(plan.headOf(i), bells);
            case 1: return plan.letterOf(i);
            case 2: return plan.callOf(i);
            case 3: return plan.firstOf(i);
            default: throw new NoSuchElementException("no such thing of a lead");
        }
    }

    public int row(int i) throws NoSuchElementException {
        if (i < 0 || i >= plan.rows()) {
            throw new NoSuchElementException("no such row of the touch");
        }
        return Rows.told(plan.rowNumbered(i), bells);
    }

    public int music() {
        Pattern pattern = new Pattern();
        boolean good = pattern.read(tape, bells);
        tape.cut(0);
        return good ? plan.fitting(pattern) : NONE;
    }

    public int whole() {
        int order = plan.order();
        if (order * plan.size() > MOST_LEADS) {
            return NONE;
        }
        return oneIf(plan.firstRepeat(order) == NONE);
    }

    public int find(int method, int m, int looks) throws IllegalArgumentException, NoSuchElementException {
        if (m < 1 || m > MOST_FOUND_LEADS || looks < 1 || looks > MOST_LOOKS) {
            throw new IllegalArgumentException("not so many leads or looks");
        }
        int answer = search.seek(toldMethod(method), m, looks);
        if (answer == FOUND) {
            plan.clear(bells);
            for (int i = 0; i < m; i++) {
                plan.add(method, search.callOf(i));
            }
        }
        return answer;
    }

    public int count(int what) {
        switch (what) {
            case 0: return bells;
            case 1: return book.size();
            case 2: return tape.size();
            case 3: return search.looked();
            default: return NONE;
        }
    }

    private Method toldMethod(int m) {
        if (!book.has(m)) {
            throw new NoSuchElementException("the method was not told");
        }
        return book.at(m);
    }

    /** Leaves the false heads noted in seen, so that they can be asked for in rising order. */
    private int noteFalseHeads(Method one, Method other) {
        seen.begin(bells);
        int heads = 0;
        int rung = Rows.rounds(bells);
        for (int i = 0; i < one.size(); i++) {
            int answered = Rows.rounds(bells);
            for (int j = 0; j < other.size(); j++) {
                if (seen.note(Rows.headBringing(rung, answered, bells), 0) == NONE) {
                    heads++;
                }
                answered = Rows.changed(answered, other.changeAt(j));
            }
            rung = Rows.changed(rung, one.changeAt(i));
        }
        return heads;
    }

    private static int oneIf(boolean so) {
        return so ? 1 : 0;
    }

    private static int cell(int[] cells, int i) {
        return i >= 0 && i < cells.length ? cells[i] : 0;
    }

    private static void setCell(int[] cells, int i, int value) {
        if (i >= 0 && i < cells.length) {
            cells[i] = value;
        }
    }

    /**
     * Rows in one int: three bits a place, the first place lowest, in each the bell less one.
     * A change is an int, too: the bits of the lower place of each two that change.
     * So a row needs no object, and a change takes a few steps at any stage.
     */
    private static final class Rows {
        static int rounds(int bells) {
            int row = 0;
            for (int place = 0; place < bells; place++) {
                row |= place << (3 * place);
            }
            return row;
        }

        static int bellAt(int row, int place) {
            return (row >>> (3 * place)) & 7;
        }

        static int placeOf(int row, int bell, int bells) {
            for (int place = 0; place < bells; place++) {
                if (bellAt(row, place) == bell) {
                    return place;
                }
            }
            return NONE;
        }

        static int changed(int row, int change) {
            int still = row & ~(change | (change << 3));
            return still | ((row & change) << 3) | ((row >>> 3) & change);
        }

        /** The change that makes the places whose bits are set, place 1 lowest; a last place left over is made, too. */
        static int changeMaking(int made, int bells) {
            int change = 0;
            int place = 0;
            while (place + 1 < bells) {
                if ((made >>> place & 1) != 0) {
                    place++;
                } else {
                    change |= 7 << (3 * place);
                    place += 2;
                }
            }
            return change;
        }

        /** What comes from head by the changes that bring row from rounds. */
        static int fromHead(int head, int row, int bells) {
            int answer = 0;
            for (int place = 0; place < bells; place++) {
                answer |= bellAt(head, bellAt(row, place)) << (3 * place);
            }
            return answer;
        }

        /** The head from which the changes that bring row from rounds bring wanted. */
        static int headBringing(int wanted, int row, int bells) {
            int answer = 0;
            for (int place = 0; place < bells; place++) {
                answer |= bellAt(wanted, place) << (3 * bellAt(row, place));
            }
            return answer;
        }

        static int order(int row, int bells) {
            int times = 1;
            int reached = row;
            while (reached != rounds(bells) && times < ALL_ROWS) {
                reached = fromHead(reached, row, bells);
                times++;
            }
            return times;
        }

        static int told(int row, int bells) {
            int number = 0;
            for (int place = 0; place < bells; place++) {
                number = number * 10 + bellAt(row, place) + 1;
            }
            return number;
        }

        static int many(int bells) {
            int rows = 1;
            for (int i = 2; i <= bells; i++) {
                rows *= i;
            }
            return rows;
        }

        /** How many rows of these bells are lower numbers. */
        static int rank(int row, int bells) {
            int rank = 0;
            int used = 0;
            for (int place = 0; place < bells; place++) {
                int bell = bellAt(row, place);
                int lowerUsed = Integer.bitCount(used & ((1 << bell) - 1));
                rank = rank * (bells - place) + bell - lowerUsed;
                used |= 1 << bell;
            }
            return rank;
        }

        static int ofRank(int rank, int bells) {
            int row = 0;
            int used = 0;
            int rest = rank;
            for (int place = 0; place < bells; place++) {
                int share = many(bells - 1 - place);
                int lower = share > 0 ? rest / share : 0;
                rest -= lower * share;
                int bell = unused(used, lower, bells);
                row |= bell << (3 * place);
                used |= 1 << bell;
            }
            return row;
        }

        private static int unused(int used, int lower, int bells) {
            int left = lower;
            for (int bell = 0; bell < bells; bell++) {
                if ((used >>> bell & 1) == 0) {
                    if (left == 0) {
                        return bell;
                    }
                    left--;
                }
            }
            return 0;
        }
    }

    private static final class Tape {
        private final byte[] bytes = new byte[MOST_BYTES];
        private int size = 0;

        int size() {
            return size;
        }

        int signAt(int i) {
            return i >= 0 && i < size && i < bytes.length ? bytes[i] & 255 : END_SIGN;
        }

        void addNumber(int number) {
            for (int shift = 24; shift >= 0; shift -= 8) {
                if (size >= 0 && size < bytes.length) {
                    bytes[size] = (byte) (number >>> shift);
                    size++;
                }
            }
        }

        void cut(int n) {
            size = n;
        }
    }

    private static final class Method {
        private final int[] changes = new int[MOST_CHANGES];
        private int size = 0;
        private int bells = 0;
        private int bob = 0;
        private int single = 0;
        private int plainHead = 0;
        private int bobHead = 0;
        private int singleHead = 0;

        void clear() {
            size = 0;
        }

        int size() {
            return size;
        }

        int bells() {
            return bells;
        }

        int changeAt(int k) {
            return cell(changes, k);
        }

        int changeCalled(int k, int call) {
            if (k != size - 1 || call == PLAIN) {
                return cell(changes, k);
            }
            return call == BOB ? bob : single;
        }

        void setChange(int k, int change) {
            setCell(changes, k, change);
        }

        void setBob(int change) {
            bob = change;
        }

        void setSingle(int change) {
            single = change;
        }

        /** The heads are kept, since compositions ask for them lead by lead. */
        void complete(int size, int bells) {
            this.size = size;
            this.bells = bells;
            int last = rowFrom(Rows.rounds(bells), size - 1);
            plainHead = Rows.changed(last, changeCalled(size - 1, PLAIN));
            bobHead = Rows.changed(last, bob);
            singleHead = Rows.changed(last, single);
        }

        void copyFrom(Method other) {
            for (int k = 0; k < other.size; k++) {
                setCell(changes, k, cell(other.changes, k));
            }
            bob = other.bob;
            single = other.single;
            complete(other.size, other.bells);
        }

        int rowFrom(int head, int k) {
            int row = head;
            for (int i = 0; i < k && i < size; i++) {
                row = Rows.changed(row, cell(changes, i));
            }
            return row;
        }

        int following(int head, int call) {
            if (call == PLAIN) {
                return Rows.fromHead(head, plainHead, bells);
            }
            return Rows.fromHead(head, call == BOB ? bobHead : singleHead, bells);
        }

        int courseLeads() {
            return Rows.order(plainHead, bells);
        }

        int courseRow(int k) {
            int leads = courseLeads();
            int head = Rows.rounds(bells);
            if (size < 1 || leads < 1) {
                return head;
            }
            int ahead = k / size % leads;
            for (int i = 0; i < ahead; i++) {
                head = following(head, PLAIN);
            }
            return rowFrom(head, k % size);
        }
    }

    /** The methods A .. F; one without changes was not told. */
    private static final class Book {
        private final Method[] methods = new Method[MOST_METHODS];
        private final Method nothing = new Method();

        Book() {
            for (int m = 0; m < methods.length; m++) {
                methods[m] = new Method();
            }
        }

        Method at(int m) {
            if (m < 0 || m >= methods.length) {
                return nothing;
            }
            Method told = methods[m];
            return told == null ? nothing : told;
        }

        boolean has(int m) {
            return at(m).size() > 0;
        }

        int size() {
            int told = 0;
            for (int m = 0; m < MOST_METHODS; m++) {
                told += oneIf(has(m));
            }
            return told;
        }

        void clear() {
            for (int m = 0; m < MOST_METHODS; m++) {
                at(m).clear();
            }
        }
    }

    /** A text on the tape, read byte by byte and once past its end, up to its first fault. */
    private abstract static class Text {
        private int kind = 0;
        private int place = 0;
        private int digitsStart = NONE;

        abstract boolean isDigit(int sign);

        abstract void takeDigit(int digit, boolean first, int at);

        abstract void takeDigitsEnd(int start);

        abstract void takeSign(int sign, int at);

        boolean readThrough(Tape tape) {
            kind = 0;
            place = 0;
            digitsStart = NONE;
            for (int at = 0; at <= tape.size() && kind == 0; at++) {
                take(tape.signAt(at), at);
            }
            return kind == 0;
        }

        private void take(int sign, int at) {
            if (isDigit(sign)) {
                boolean first = digitsStart == NONE;
                digitsStart = first ? at : digitsStart;
                takeDigit(sign - '0', first, at);
                return;
            }
            if (digitsStart != NONE) {
                takeDigitsEnd(digitsStart);
                digitsStart = NONE;
            }
            if (kind == 0) {
                takeSign(sign, at);
            }
        }

        void refuse(int kind, int place) {
            this.kind = kind;
            this.place = place;
        }

        int kind() {
            return kind;
        }

        int place() {
            return place;
        }
    }

    private static final class MethodText extends Text {
        /** What has come last: nothing of the block, what a change must follow, x, or digits. */
        private static final int BLOCK_START = 0;
        private static final int CHANGE_DUE = 1;
        private static final int AFTER_CROSS = 2;
        private static final int AFTER_DIGITS = 3;

        private static final int LEAD_PART = 0;
        private static final int BOB_PART = 1;
        private static final int SINGLE_PART = 2;

        private final Method draft = new Method();
        private int bells = 0;
        private int part = LEAD_PART;
        private int state = BLOCK_START;
        private int total = 0;
        private int blockStart = 0;
        private boolean mirrored = false;

        private boolean digitsWrong = false;
        private int firstDigit = 0;
        private int lastDigit = 0;
        private int made = 0;

        Method draft() {
            return draft;
        }

        void begin(int bells) {
            this.bells = bells;
            part = LEAD_PART;
            total = 0;
            beginBlock();
        }

        private void beginBlock() {
            state = BLOCK_START;
            blockStart = total;
            mirrored = false;
        }

        boolean isDigit(int sign) {
            return sign >= '1' && sign <= '8';
        }

        void takeSign(int sign, int at) {
            switch (sign) {
                case ' ':
                case '\n':
                    break;
                case 'x':
                case '-':
                    takeCross(at);
                    break;
                case '&':
                case '+':
                    takeMark(sign == '&', at);
                    break;
                case '.':
                    takeDot(at);
                    break;
                case ',':
                    takeComma(at);
                    break;
                case ';':
                    takeSemicolon(at);
                    break;
                case END_SIGN:
                    takeEnd(at);
                    break;
                default:
                    refuse(STRAY_BYTE, at);
            }
        }

        private boolean changeEnded() {
            return state == AFTER_CROSS || state == AFTER_DIGITS;
        }

        void takeDigit(int digit, boolean first, int at) {
            if (first) {
                boolean behindCross = part == LEAD_PART && state == AFTER_CROSS;
                if (changeEnded() && !behindCross) {
                    refuse(STRAY_BYTE, at);
                    return;
                }
                digitsWrong = digit > bells;
                firstDigit = digit;
                made = 0;
            } else if (digit <= lastDigit || digit > bells || (digit - lastDigit) % 2 == 0) {
                digitsWrong = true;
            }
            lastDigit = digit;
            made |= 1 << (digit - 1);
        }

        void takeDigitsEnd(int start) {
            if (digitsWrong) {
                refuse(WRONG_DIGITS, start);
                return;
            }
            if (firstDigit % 2 == 0) {
                made |= 1;
            }
            addChange(Rows.changeMaking(made, bells));
            state = AFTER_DIGITS;
        }

        private void takeCross(int at) {
            if (changeEnded() && part != LEAD_PART) {
                refuse(STRAY_BYTE, at);
            } else if (bells % 2 != 0) {
                refuse(WRONG_DIGITS, at);
            } else {
                addChange(Rows.changeMaking(0, bells));
                state = AFTER_CROSS;
            }
        }

        private void addChange(int change) {
            if (part == BOB_PART) {
                draft.setBob(change);
            } else if (part == SINGLE_PART) {
                draft.setSingle(change);
            } else {
                draft.setChange(total, change);
                total++;
            }
        }

        private void takeMark(boolean back, int at) {
            if (state != BLOCK_START) {
                refuse(STRAY_BYTE, at);
                return;
            }
            mirrored = back;
            state = CHANGE_DUE;
        }

        private void takeDot(int at) {
            if (part != LEAD_PART || !changeEnded()) {
                refuse(STRAY_BYTE, at);
                return;
            }
            state = CHANGE_DUE;
        }

        private void takeComma(int at) {
            if (part != LEAD_PART || !changeEnded()) {
                refuse(STRAY_BYTE, at);
                return;
            }
            closeBlock(at);
            beginBlock();
        }

        private void takeSemicolon(int at) {
            if (part == SINGLE_PART || !changeEnded()) {
                refuse(STRAY_BYTE, at);
                return;
            }
            if (part == LEAD_PART) {
                closeBlock(at);
            }
            part++;
            state = CHANGE_DUE;
        }

        private void takeEnd(int at) {
            if (part != SINGLE_PART || !changeEnded()) {
                refuse(STRAY_BYTE, at);
                return;
            }
            draft.complete(total, bells);
        }

        private void closeBlock(int at) {
            int back = mirrored ? total - blockStart - 1 : 0;
            if (total + back > MOST_CHANGES) {
                refuse(TOO_MANY_CHANGES, at);
                return;
            }
            for (int i = 0; i < back; i++) {
                draft.setChange(total + i, draft.changeAt(total - 2 - i));
            }
            total += back;
        }
    }

    /** Reads a composition into items, then spreads what the numbers tell into leads. */
    private static final class CompositionText extends Text {
        /** No text of 500 bytes with 1000 leads takes so many steps. */
        private static final int MOST_STEPS = 10000000;

        private final Book book;
        private final int[] signs = new int[MOST_BYTES];
        private final int[] times = new int[MOST_BYTES];
        private int items = 0;
        private int letter = 0;
        private int depth = 0;
        private boolean empty = true;
        private int number = NONE;
        private int digits = 0;

        private final int[] groupStarts = new int[MOST_DEPTH];
        private final int[] groupTimes = new int[MOST_DEPTH];
        private final int[] groupLeads = new int[MOST_DEPTH];
        private final int[] leads = new int[MOST_LEADS];
        private int size = 0;

        CompositionText(Book book) {
            this.book = book;
        }

        int size() {
            return size;
        }

        int letterOf(int i) {
            return cell(leads, i) / CALLS;
        }

        int callOf(int i) {
            return cell(leads, i) % CALLS;
        }

        void begin() {
            items = 0;
            letter = 0;
            depth = 0;
            empty = true;
            number = NONE;
        }

        boolean isDigit(int sign) {
            return sign >= '0' && sign <= '9';
        }

        void takeSign(int sign, int at) {
            if (sign == ' ' || sign == '\n') {
                return;
            }
            if (callFor(sign) != NONE) {
                takeUnit(sign, letter, at);
            } else if (sign >= 'A' && sign <= 'F') {
                letter = sign - 'A';
                takeUnit(sign, letter, at);
            } else if (sign == '(') {
                openGroup(at);
            } else if (sign == ')') {
                closeGroup(at);
            } else if (sign != END_SIGN || depth > 0 || empty || number != NONE) {
                refuse(STRAY_BYTE, at);
            }
        }

        void takeDigit(int digit, boolean first, int at) {
            if (!first) {
                digits++;
                number = digits > 2 ? MOST_TIMES + 1 : number * 10 + digit;
            } else if (number != NONE) {
                refuse(STRAY_BYTE, at);
            } else {
                digits = 1;
                number = digit;
            }
        }

        void takeDigitsEnd(int start) {
            if (number < 2 || number > MOST_TIMES) {
                refuse(WRONG_DIGITS, start);
            }
        }

        private static int callFor(int sign) {
            switch (sign) {
                case 'p': return PLAIN;
                case 'b': return BOB;
                case 's': return SINGLE;
                default: return NONE;
            }
        }

        private void takeUnit(int sign, int needed, int at) {
            if (!book.has(needed)) {
                refuse(UNTOLD_METHOD, at);
                return;
            }
            addItem(sign);
            empty = false;
        }

        private void openGroup(int at) {
            if (depth >= MOST_DEPTH) {
                refuse(TOO_DEEP, at);
                return;
            }
            depth++;
            addItem('(');
            empty = true;
        }

        private void closeGroup(int at) {
            if (depth == 0 || empty || number != NONE) {
                refuse(STRAY_BYTE, at);
                return;
            }
            depth--;
            addItem(')');
        }

        private void addItem(int sign) {
            setCell(signs, items, sign);
            setCell(times, items, number == NONE ? 1 : number);
            items++;
            number = NONE;
        }

        /** Whether the leads are not too many; a text read without a fault is meant. */
        boolean spread(int end) {
            size = 0;
            letter = 0;
            depth = 0;
            int item = 0;
            for (int steps = 0; steps < MOST_STEPS && item < items && size <= MOST_LEADS; steps++) {
                item = follow(item);
            }
            if (size > MOST_LEADS) {
                refuse(TOO_MANY_LEADS, end);
            }
            return kind() == 0;
        }

        /** Does one item, and tells which is next. */
        private int follow(int item) {
            int sign = cell(signs, item);
            if (sign == ')') {
                return leaveGroup(item);
            }
            if (sign == '(') {
                enterGroup(item);
            } else if (callFor(sign) == NONE) {
                letter = sign - 'A';
            } else {
                addLeads(callFor(sign), cell(times, item));
            }
            return item + 1;
        }

        private void enterGroup(int item) {
            setCell(groupStarts, depth, item + 1);
            setCell(groupTimes, depth, cell(times, item));
            setCell(groupLeads, depth, size);
            depth++;
        }

        private int leaveGroup(int item) {
            int group = depth - 1;
            int left = cell(groupTimes, group) - 1;
            // A group without leads only sets the method: once more would change nothing,
            // and without end in sight, were there many of them one within another.
            if (left > 0 && size > cell(groupLeads, group)) {
                setCell(groupTimes, group, left);
                return cell(groupStarts, group);
            }
            depth = group;
            return item + 1;
        }

        private void addLeads(int call, int many) {
            for (int i = 0; i < many && size <= MOST_LEADS; i++) {
                setCell(leads, size, letter * CALLS + call);
                size++;
            }
        }
    }

    /**
     * Which rows have come, each with a number. What an earlier use left stands at or below base, so that begin()
     * need not walk over all rows; 512 calls with some 64000 rows each stay far below the highest int.
     */
    private static final class Seen {
        private final int[] stamps = new int[ALL_ROWS];
        private int bells = 0;
        private int base = 0;
        private int top = 0;

        void begin(int bells) {
            this.bells = bells;
            base = top;
        }

        /** The number that the row came with, or NONE: then it has come now. */
        int note(int row, int number) {
            int rank = Rows.rank(row, bells);
            int stamp = cell(stamps, rank);
            if (stamp > base) {
                return stamp - base - 1;
            }
            stamp = base + number + 1;
            setCell(stamps, rank, stamp);
            top = Math.max(top, stamp);
            return NONE;
        }

        void forget(int row) {
            setCell(stamps, Rows.rank(row, bells), 0);
        }

        /** The row that came and is above k others that came, or NONE. */
        int risingRow(int k) {
            int left = k;
            int all = Rows.many(bells);
            for (int rank = 0; rank < all && left >= 0; rank++) {
                if (cell(stamps, rank) > base) {
                    if (left == 0) {
                        return Rows.ofRank(rank, bells);
                    }
                    left--;
                }
            }
            return NONE;
        }
    }

    /** The composition and its touch. */
    private static final class Plan {
        private final Book book;
        private final Seen seen;
        private final int[] leads = new int[MOST_LEADS];
        private final int[] heads = new int[MOST_LEADS];
        private final int[] firsts = new int[MOST_LEADS];
        private int bells;
        private int size = 0;
        private int rows = 0;
        private int ending;
        private boolean proven = false;
        private int repeated = NONE;
        private int repeatedFrom = NONE;

        Plan(Book book, Seen seen, int bells) {
            this.book = book;
            this.seen = seen;
            this.bells = bells;
            ending = Rows.rounds(bells);
        }

        void clear(int bells) {
            this.bells = bells;
            size = 0;
            rows = 0;
            ending = Rows.rounds(bells);
            proven = false;
        }

        void add(int letter, int call) {
            if (size >= MOST_LEADS) {
                return;
            }
            setCell(leads, size, letter * CALLS + call);
            setCell(heads, size, ending);
            setCell(firsts, size, rows);
            size++;
            rows += book.at(letter).size();
            ending = book.at(letter).following(ending, call);
        }

        int size() {
            return size;
        }

        int rows() {
            return rows;
        }

        int ending() {
            return ending;
        }

        int order() {
            return Rows.order(ending, bells);
        }

        int letterOf(int i) {
            return cell(leads, i) / CALLS;
        }

        int callOf(int i) {
            return cell(leads, i) % CALLS;
        }

        int headOf(int i) {
            return cell(heads, i);
        }

        int firstOf(int i) {
            return cell(firsts, i);
        }

        int calls(int call) {
            int many = 0;
            for (int i = 0; i < size; i++) {
                many += oneIf(callOf(i) == call);
            }
            return many;
        }

        int methodChanges() {
            int many = 0;
            for (int i = 1; i < size; i++) {
                many += oneIf(letterOf(i) != letterOf(i - 1));
            }
            return many;
        }

        int rowNumbered(int number) {
            for (int i = size - 1; i >= 0; i--) {
                if (firstOf(i) <= number) {
                    return book.at(letterOf(i)).rowFrom(headOf(i), number - firstOf(i));
                }
            }
            return ending;
        }

        int repeated() {
            prove();
            return repeated;
        }

        int repeatedFrom() {
            prove();
            return repeatedFrom;
        }

        private void prove() {
            if (proven) {
                return;
            }
            repeated = firstRepeat(1);
            repeatedFrom = repeated == NONE ? NONE : seen.note(rowNumbered(repeated), repeated);
            proven = true;
        }

        /** The first row that is like one ahead of it, when all is rung so many times. */
        int firstRepeat(int times) {
            seen.begin(bells);
            int row = Rows.rounds(bells);
            int number = 0;
            for (int time = 0; time < times; time++) {
                for (int i = 0; i < size; i++) {
                    Method method = book.at(letterOf(i));
                    for (int k = 0; k < method.size(); k++) {
                        if (seen.note(row, number) != NONE) {
                            return number;
                        }
                        number++;
                        row = Rows.changed(row, method.changeCalled(k, callOf(i)));
                    }
                }
            }
            return NONE;
        }

        int fitting(Pattern pattern) {
            int many = 0;
            for (int i = 0; i < size; i++) {
                Method method = book.at(letterOf(i));
                int row = headOf(i);
                for (int k = 0; k < method.size(); k++) {
                    many += oneIf(pattern.fits(row));
                    row = Rows.changed(row, method.changeAt(k));
                }
            }
            return many;
        }
    }

    /** Looks at heads in depth, lead behind lead, till the last one of so many leads comes home. */
    private static final class Search {
        private final Seen seen;
        private final int[] heads = new int[MOST_FOUND_LEADS];
        private final int[] calls = new int[MOST_FOUND_LEADS];
        private int depth = 0;
        private int looked = 0;

        Search(Seen seen) {
            this.seen = seen;
        }

        int looked() {
            return looked;
        }

        int callOf(int i) {
            return cell(calls, i);
        }

        int seek(Method method, int leads, int looks) {
            seen.begin(method.bells());
            depth = 0;
            int coming = Rows.rounds(method.bells());
            for (looked = 1; looked <= looks; looked++) {
                boolean ahead = false;
                if (ring(method, coming)) {
                    ahead = depth + 1 < leads;
                    if (!ahead && endsHome(method, coming)) {
                        return FOUND;
                    }
                    setCell(heads, depth, coming);
                    setCell(calls, depth, ahead ? PLAIN : SINGLE);
                    depth++;
                }
                if (!ahead && !turnBack(method)) {
                    return NOTHING_LEFT;
                }
                coming = method.following(cell(heads, depth - 1), callOf(depth - 1));
            }
            looked = looks;
            return LOOKS_SPENT;
        }

        /** Notes the rows of the lead; not one, if one of them has come. */
        private boolean ring(Method method, int head) {
            int row = head;
            for (int k = 0; k < method.size(); k++) {
                if (seen.note(row, 0) != NONE) {
                    unring(method, head, k);
                    return false;
                }
                row = Rows.changed(row, method.changeAt(k));
            }
            return true;
        }

        private void unring(Method method, int head, int many) {
            int row = head;
            for (int k = 0; k < many; k++) {
                seen.forget(row);
                row = Rows.changed(row, method.changeAt(k));
            }
        }

        private boolean endsHome(Method method, int head) {
            for (int call = PLAIN; call < CALLS; call++) {
                if (method.following(head, call) == Rows.rounds(method.bells())) {
                    setCell(calls, depth, call);
                    return true;
                }
            }
            return false;
        }

        /** Goes back to the last lead that can be called otherwise, and calls it so. */
        private boolean turnBack(Method method) {
            while (depth > 0) {
                int last = depth - 1;
                if (callOf(last) < SINGLE) {
                    setCell(calls, last, callOf(last) + 1);
                    return true;
                }
                unring(method, cell(heads, last), method.size());
                depth = last;
            }
            return false;
        }
    }

    /** A pattern, as the bits of the row that it tells and which bits these are. */
    private static final class Pattern {
        private int mask = 0;
        private int value = 0;

        boolean read(Tape tape, int bells) {
            int signs = 0;
            int stars = 0;
            int used = 0;
            for (int i = 0; i < tape.size(); i++) {
                int sign = tape.signAt(i);
                if (sign == '*') {
                    stars++;
                } else {
                    signs++;
                    int bit = sign == '?' ? 0 : bitOf(sign, bells);
                    if (bit == NONE || (used & bit) != 0) {
                        return false;
                    }
                    used |= bit;
                }
            }
            if (stars > 1 || signs > bells || (stars == 0 && signs < bells)) {
                return false;
            }
            setPlaces(tape, bells - signs);
            return true;
        }

        private static int bitOf(int sign, int bells) {
            return sign >= '1' && sign <= '0' + bells ? 1 << (sign - '1') : NONE;
        }

        private void setPlaces(Tape tape, int free) {
            int place = 0;
            for (int i = 0; i < tape.size(); i++) {
                int sign = tape.signAt(i);
                if (sign == '*') {
                    place += free;
                } else {
                    if (sign != '?') {
                        mask |= 7 << (3 * place);
                        value |= (sign - '1') << (3 * place);
                    }
                    place++;
                }
            }
        }

        boolean fits(int row) {
            return (row & mask) == value;
        }
    }
}
