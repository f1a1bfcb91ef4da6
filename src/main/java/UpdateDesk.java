/** Documents that are changed by documents; shared/DOC.md says what each call answers. */
public final class UpdateDesk {
    private static final int MOST_BYTES = 2000;
    private static final int MOST_DEPTH = 16;
    private static final int MOST_STEPS = 8;
    private static final int SLOT_COUNT = 4;
    private static final int FEED_BYTES = 20;

    /** An element has at least its kind and the 0 behind its name. */
    private static final int MOST_ELEMENTS = MOST_BYTES / 2;

    /**
     * Before fault 9 is looked for, a draft may be longer than a document: a path of k steps makes at most
     * 7k + 3 bytes beside its names and its argument, for which a change has 1 + k, so less than four times
     * the bytes of a change come to those of the document.
     */
    private static final int MOST_DRAFT = 5 * MOST_BYTES;

    /** A draft is at most 23 deep: 8 steps, the row of a $push and the 14 levels that an argument can have. */
    private static final int MOST_LEVELS = 40;

    private static final int TEXT = 2;
    private static final int DOCUMENT = 3;
    private static final int ROW = 4;
    private static final int TRUTH = 8;
    private static final int NOTHING = 10;
    private static final int WHOLE = 16;
    private static final int LONG_WHOLE = 18;

    private static final int SIZE_BYTES = 4;
    private static final int LEAST_DOCUMENT = 5;

    private static final int OPERATOR_COUNT = 6;
    private static final int SET = 0;
    private static final int UNSET = 1;
    private static final int INC = 2;
    private static final int PUSH = 3;
    private static final int PULL = 4;
    private static final int ADD_TO_SET = 5;

    private static final int NO_OPERATOR = 1;
    private static final int NO_PATHS = 2;
    private static final int NO_PATH = 3;
    private static final int NO_NUMBER = 4;
    private static final int CLASH = 5;
    private static final int NO_WAY = 6;
    private static final int WRONG_CLASS = 7;
    private static final int TOO_GREAT = 8;
    private static final int TOO_LARGE = 9;

    private static final int NONE = -1;
    private static final int POINT = '.';

    private final Bytes tape = new Bytes(MOST_BYTES);
    private final Bytes[] slots = new Bytes[SLOT_COUNT];
    private final Checker checker = new Checker();
    private final Plan plan = new Plan();
    private final Editor editor = new Editor();
    private boolean planned = false;
    private int faultOperator = NONE;
    private int faultPath = NONE;

    public UpdateDesk() {
        for (int i = 0; i < SLOT_COUNT; i++) {
            slots[i] = new Bytes(MOST_BYTES);
            slots[i].becomeEmptyDocument();
        }
    }

    public int feed(int a, int b, int c, int d, int e) {
        if (tape.length + FEED_BYTES > MOST_BYTES) {
            return -1;
        }
        tape.addHighestFirst(a);
        tape.addHighestFirst(b);
        tape.addHighestFirst(c);
        tape.addHighestFirst(d);
        tape.addHighestFirst(e);
        return tape.length;
    }

    public int read(int slot, int n) {
        Bytes document = slotOf(slot);
        if (document == null || !tapeHas(n)) {
            return -2;
        }
        boolean right = checker.isDocument(tape, n);
        if (right) {
            document.become(tape, n);
        }
        tape.length = 0;
        return right ? document.countElements(0) : -1;
    }

    public int change(int n) {
        if (!tapeHas(n)) {
            return -2;
        }
        boolean right = checker.isDocument(tape, n);
        if (right) {
            plan.script.become(tape, n);
        }
        tape.length = 0;
        planned = false;
        if (!right) {
            return -1;
        }
        int fault = plan.study();
        if (fault != 0) {
            faultOperator = plan.operator;
            faultPath = plan.path;
            return fault - 10;
        }
        planned = true;
        return plan.count;
    }

    public int apply(int slot) {
        Bytes document = slotOf(slot);
        if (document == null) {
            return -1;
        }
        if (!planned) {
            return -2;
        }
        editor.draft.become(document, document.length);
        int answer = editor.perform(plan);
        if (answer < 0) {
            faultOperator = plan.operatorOf(editor.failed);
            faultPath = plan.numberOf(editor.failed);
            return -answer - 20;
        }
        document.become(editor.draft, editor.draft.length);
        return answer;
    }

    public int place(int what) {
        if (what == 0) {
            return faultOperator;
        }
        return what == 1 ? faultPath : -1;
    }

    public int many(int slot, int what) {
        Bytes document = slotOf(slot);
        if (document == null) {
            return -1;
        }
        switch (what) {
            case 0:
                return document.length;
            case 1:
                return document.countElements(0);
            case 2:
                return deepest(document, 0, 1);
            default:
                return -1;
        }
    }

    public int byteAt(int slot, int i) {
        Bytes document = slotOf(slot);
        if (document == null || i < 0 || i >= document.length) {
            return -1;
        }
        return document.at(i);
    }

    public boolean copy(int r, int s) {
        Bytes target = slotOf(r);
        Bytes source = slotOf(s);
        if (target == null || source == null) {
            return false;
        }
        target.become(source, source.length);
        return true;
    }

    private Bytes slotOf(int slot) {
        return slot >= 0 && slot < slots.length ? slots[slot] : null;
    }

    private boolean tapeHas(int n) {
        return n >= 0 && n <= tape.length;
    }

    private static boolean isHolder(int kind) {
        return kind == DOCUMENT || kind == ROW;
    }

    private static boolean isNumber(int kind) {
        return kind == WHOLE || kind == LONG_WHOLE;
    }

    /** How deep the deepest document or row lies, of a holder and what is in it. */
    private static int deepest(Bytes bytes, int holder, int depth) {
        int most = depth;
        if (depth >= MOST_LEVELS) {
            return most;
        }
        int last = bytes.lastOf(holder);
        int element = holder + SIZE_BYTES;
        for (int n = 0; n < bytes.length && element < last; n++) {
            if (isHolder(bytes.at(element))) {
                most = Math.max(most, deepest(bytes, bytes.valueStart(element), depth + 1));
            }
            element = bytes.valueEnd(element);
        }
        return most;
    }

    /** Whether the values of two elements are SAME, whatever the names of these two. */
    private static boolean sameValues(Bytes a, int elementA, Bytes b, int elementB, int depth) {
        int kindA = a.at(elementA);
        int kindB = b.at(elementB);
        if (isNumber(kindA) && isNumber(kindB)) {
            return a.numberOf(elementA) == b.numberOf(elementB);
        }
        if (kindA != kindB) {
            return false;
        }
        int startA = a.valueStart(elementA);
        int startB = b.valueStart(elementB);
        if (isHolder(kindA)) {
            return depth < MOST_LEVELS && sameHolders(a, startA, b, startB, depth + 1);
        }
        return sameRange(a, startA, a.valueEnd(elementA), b, startB, b.valueEnd(elementB));
    }

    /** Rows have the same names if they have as many items, so that they need no way of their own. */
    private static boolean sameHolders(Bytes a, int holderA, Bytes b, int holderB, int depth) {
        int lastA = a.lastOf(holderA);
        int lastB = b.lastOf(holderB);
        int elementA = holderA + SIZE_BYTES;
        int elementB = holderB + SIZE_BYTES;
        for (int n = 0; n < a.length && elementA < lastA && elementB < lastB; n++) {
            if (!sameNames(a, elementA + 1, b, elementB + 1) || !sameValues(a, elementA, b, elementB, depth)) {
                return false;
            }
            elementA = a.valueEnd(elementA);
            elementB = b.valueEnd(elementB);
        }
        return elementA >= lastA && elementB >= lastB;
    }

    private static boolean sameNames(Bytes a, int nameA, Bytes b, int nameB) {
        for (int n = 0; n < a.length; n++) {
            int byteA = a.at(nameA + n);
            if (byteA != b.at(nameB + n)) {
                return false;
            }
            if (byteA == 0) {
                return true;
            }
        }
        return false;
    }

    private static boolean sameRange(Bytes a, int fromA, int toA, Bytes b, int fromB, int toB) {
        int count = toA - fromA;
        if (count != toB - fromB) {
            return false;
        }
        for (int n = 0; n < count; n++) {
            if (a.at(fromA + n) != b.at(fromB + n)) {
                return false;
            }
        }
        return true;
    }

    /** A run of bytes with room for so many, and the ways through a document that lies in it. */
    private static final class Bytes {
        private final byte[] data;
        private int length = 0;

        Bytes(int room) {
            data = new byte[Math.max(room, 0)];
        }

        int at(int i) {
            return i >= 0 && i < length ? data[i] & 255 : 0;
        }

        void put(int i, int value) {
            if (i >= 0 && i < length) {
                data[i] = (byte) value;
            }
        }

        int intAt(int i) {
            if (i < 0 || i > length - 4) {
                return 0;
            }
            int low = (data[i] & 255) | (data[i + 1] & 255) << 8;
            return low | (data[i + 2] & 255) << 16 | (data[i + 3] & 255) << 24;
        }

        long longAt(int i) {
            return ((long) intAt(i + 4) << 32) | (intAt(i) & 0xFFFFFFFFL);
        }

        void putInt(int i, int value) {
            for (int n = 0; n < 4; n++) {
                put(i + n, value >> 8 * n);
            }
        }

        void add(int value) {
            if (length < data.length) {
                data[length] = (byte) value;
                length++;
            }
        }

        void addHighestFirst(int value) {
            for (int shift = 24; shift >= 0; shift -= 8) {
                add(value >> shift);
            }
        }

        void becomeEmptyDocument() {
            length = 0;
            add(LEAST_DOCUMENT);
            for (int n = 1; n < LEAST_DOCUMENT; n++) {
                add(0);
            }
        }

        void becomeNumber(long value) {
            length = 0;
            for (int shift = 0; shift < 64; shift += 8) {
                add((int) (value >> shift));
            }
        }

        /** The decimal digits of a number that is not below 0. */
        void becomeDigits(int value) {
            int unit = 1;
            for (int n = 1; n < 10 && value / 10 >= unit; n++) {
                unit *= 10;
            }
            length = 0;
            for (int n = 0; n < 10 && unit > 0; n++) {
                add('0' + value / unit % 10);
                unit /= 10;
            }
        }

        void become(Bytes source, int n) {
            if (n >= 0 && n <= source.length && n <= data.length) {
                System.arraycopy(source.data, 0, data, 0, n);
                length = n;
            }
        }

        /** Makes the bytes from 'at' on fewer or more, those behind them moving; false when there is no room. */
        boolean resize(int at, int oldCount, int newCount) {
            if (at < 0 || oldCount < 0 || newCount < 0 || at > length || oldCount > length - at) {
                return false;
            }
            if (newCount > data.length - (length - oldCount)) {
                return false;
            }
            System.arraycopy(data, at + oldCount, data, at + newCount, length - at - oldCount);
            length += newCount - oldCount;
            return true;
        }

        void write(int at, Bytes source, int from, int to) {
            int count = to - from;
            if (from < 0 || count < 0 || to > source.length || at < 0 || at > length || count > length - at) {
                return;
            }
            System.arraycopy(source.data, from, data, at, count);
        }

        /** Behind the 0 of the element's name; where no 0 is, it is behind these bytes. */
        int valueStart(int element) {
            for (int i = Math.max(element + 1, 0); i < length; i++) {
                if (data[i] == 0) {
                    return i + 1;
                }
            }
            return length + 1;
        }

        int nameEnd(int element) {
            return valueStart(element) - 1;
        }

        /** Where the element ends, too, and the next one begins. */
        int valueEnd(int element) {
            int start = valueStart(element);
            switch (at(element)) {
                case WHOLE:
                    return start + 4;
                case LONG_WHOLE:
                    return start + 8;
                case TRUTH:
                    return start + 1;
                case TEXT:
                    return start + 4 + intAt(start);
                case DOCUMENT:
                case ROW:
                    return start + intAt(start);
                default:
                    return start;
            }
        }

        long numberOf(int element) {
            int start = valueStart(element);
            return at(element) == WHOLE ? intAt(start) : longAt(start);
        }

        /** The index of a document's or row's last byte, its 0. */
        int lastOf(int holder) {
            return holder + intAt(holder) - 1;
        }

        int countElements(int holder) {
            int last = lastOf(holder);
            int element = holder + SIZE_BYTES;
            int count = 0;
            for (; count < length && element < last; count++) {
                element = valueEnd(element);
            }
            return count;
        }
    }

    /** Tells whether bytes are a document. */
    private static final class Checker {
        /** The names of all documents that stand open, those of the innermost one last. */
        private final int[] names = new int[MOST_ELEMENTS];
        private final Bytes digits = new Bytes(10);
        private int nameCount = 0;

        boolean isDocument(Bytes bytes, int n) {
            nameCount = 0;
            return holderEnd(bytes, 0, n, DOCUMENT, 1) == n;
        }

        /** Where the document or row from an index on ends, or NONE when none is there that ends by the limit. */
        private int holderEnd(Bytes bytes, int from, int limit, int kind, int depth) {
            if (depth > MOST_DEPTH || limit - from < LEAST_DOCUMENT) {
                return NONE;
            }
            int size = bytes.intAt(from);
            if (size < LEAST_DOCUMENT || size > limit - from) {
                return NONE;
            }
            int last = from + size - 1;
            int firstName = nameCount;
            int element = from + SIZE_BYTES;
            for (int n = 0; n < MOST_ELEMENTS && element < last; n++) {
                if (!isRightName(bytes, element, last, kind, firstName)) {
                    return NONE;
                }
                element = checkedEnd(bytes, element, last, depth);
                if (element == NONE) {
                    return NONE;
                }
            }
            nameCount = firstName;
            return element == last && bytes.at(last) == 0 ? last + 1 : NONE;
        }

        private boolean isRightName(Bytes bytes, int element, int last, int kind, int firstName) {
            int name = element + 1;
            int end = bytes.nameEnd(element);
            if (end >= last || nameCount >= names.length || !isRightText(bytes, name, end)) {
                return false;
            }
            if (kind == ROW) {
                digits.becomeDigits(nameCount - firstName);
                if (!sameRange(bytes, name, end, digits, 0, digits.length)) {
                    return false;
                }
            } else if (isOneOf(bytes, name, firstName)) {
                return false;
            }
            names[nameCount] = name;
            nameCount++;
            return true;
        }

        private boolean isOneOf(Bytes bytes, int name, int firstName) {
            for (int n = Math.max(firstName, 0); n < nameCount && n < names.length; n++) {
                if (sameNames(bytes, names[n], bytes, name)) {
                    return true;
                }
            }
            return false;
        }

        /** Where an element with a right name ends, or NONE when its kind or value is wrong. */
        private int checkedEnd(Bytes bytes, int element, int last, int depth) {
            int start = bytes.valueStart(element);
            int left = last - start;
            int kind = bytes.at(element);
            switch (kind) {
                case WHOLE:
                    return left >= 4 ? start + 4 : NONE;
                case LONG_WHOLE:
                    return left >= 8 ? start + 8 : NONE;
                case TRUTH:
                    return left >= 1 && bytes.at(start) <= 1 ? start + 1 : NONE;
                case NOTHING:
                    return start;
                case TEXT:
                    return textEnd(bytes, start, last);
                case DOCUMENT:
                case ROW:
                    return holderEnd(bytes, start, last, kind, depth + 1);
                default:
                    return NONE;
            }
        }

        private static int textEnd(Bytes bytes, int start, int last) {
            int count = bytes.intAt(start);
            if (count < 1 || count > last - start - 4) {
                return NONE;
            }
            int end = start + 4 + count;
            return bytes.at(end - 1) == 0 && isRightText(bytes, start + 4, end - 1) ? end : NONE;
        }

        private static boolean isRightText(Bytes bytes, int from, int to) {
            int at = from;
            for (int n = from; n < to && at < to; n++) {
                int size = characterSize(bytes, at, to);
                if (size == 0) {
                    return false;
                }
                at += size;
            }
            return true;
        }

        /** How many bytes the character there has, or 0 when no right one is there. */
        private static int characterSize(Bytes bytes, int at, int to) {
            int lead = bytes.at(at);
            if (lead < 0x80) {
                return 1;
            }
            int size = lead < 0xE0 ? 2 : lead < 0xF0 ? 3 : 4;
            if (lead < 0xC0 || lead > 0xF7 || size > to - at) {
                return 0;
            }
            int code = lead & (0xFF >> (size + 1));
            for (int n = 1; n < size; n++) {
                int next = bytes.at(at + n);
                if ((next & 0xC0) != 0x80) {
                    return 0;
                }
                code = (code << 6) | (next & 0x3F);
            }
            int least = size == 2 ? 0x80 : size == 3 ? 0x800 : 0x10000;
            boolean halfOfPair = code >= 55296 && code <= 57343;
            return code >= least && code <= 1114111 && !halfOfPair ? size : 0;
        }
    }

    /** A change: its bytes, and a list of its paths in their order. */
    private static final class Plan {
        private final Bytes script = new Bytes(MOST_BYTES);
        private final int[] elements = new int[MOST_ELEMENTS];
        private final int[] codes = new int[MOST_ELEMENTS];
        private final int[] operators = new int[MOST_ELEMENTS];
        private final int[] numbers = new int[MOST_ELEMENTS];
        private int count = 0;
        /** Where study stands, and so where it has found a fault. */
        private int operator = 0;
        private int path = NONE;

        /** Lists the paths of the script: 0, or its first fault. */
        int study() {
            count = 0;
            int last = script.lastOf(0);
            int element = SIZE_BYTES;
            for (int n = 0; n < MOST_ELEMENTS && element < last; n++) {
                operator = n;
                path = NONE;
                int fault = studyOperator(element);
                if (fault != 0) {
                    return fault;
                }
                element = script.valueEnd(element);
            }
            return 0;
        }

        private int studyOperator(int element) {
            int code = codeOf(element + 1);
            if (code == NONE) {
                return NO_OPERATOR;
            }
            if (script.at(element) != DOCUMENT) {
                return NO_PATHS;
            }
            int holder = script.valueStart(element);
            int last = script.lastOf(holder);
            int inner = holder + SIZE_BYTES;
            for (int n = 0; n < MOST_ELEMENTS && inner < last; n++) {
                path = n;
                int fault = studyPath(inner, code);
                if (fault != 0) {
                    return fault;
                }
                enlist(inner, code);
                inner = script.valueEnd(inner);
            }
            return 0;
        }

        private int studyPath(int element, int code) {
            if (!isPath(element + 1, script.nameEnd(element))) {
                return NO_PATH;
            }
            if (code == INC && !isNumber(script.at(element))) {
                return NO_NUMBER;
            }
            for (int n = 0; n < count && n < elements.length; n++) {
                if (clash(elements[n] + 1, element + 1)) {
                    return CLASH;
                }
            }
            return 0;
        }

        private void enlist(int element, int code) {
            if (count < elements.length) {
                elements[count] = element;
                codes[count] = code;
                operators[count] = operator;
                numbers[count] = path;
                count++;
            }
        }

        private int codeOf(int name) {
            for (int code = 0; code < OPERATOR_COUNT; code++) {
                if (isNamed(name, textOf(code))) {
                    return code;
                }
            }
            return NONE;
        }

        private boolean isNamed(int name, String text) {
            for (int n = 0; n < text.length(); n++) {
                if (script.at(name + n) != text.charAt(n)) {
                    return false;
                }
            }
            return script.at(name + text.length()) == 0;
        }

        private static String textOf(int code) {
            switch (code) {
                case SET:
                    return "$set";
                case UNSET:
                    return "$unset";
                case INC:
                    return "$inc";
                case PUSH:
                    return "$push";
                case PULL:
                    return "$pull";
                default:
                    return "$addToSet";
            }
        }

        private boolean isPath(int name, int end) {
            int steps = 1;
            int stepFrom = name;
            for (int i = name; i < end; i++) {
                if (script.at(i) == POINT) {
                    if (i == stepFrom) {
                        return false;
                    }
                    steps++;
                    stepFrom = i + 1;
                }
            }
            return stepFrom < end && steps <= MOST_STEPS;
        }

        /** Whether one of two paths begins with all steps of the other one. */
        private boolean clash(int nameA, int nameB) {
            for (int n = 0; n < script.length; n++) {
                int a = script.at(nameA + n);
                int b = script.at(nameB + n);
                if (a != b) {
                    return (a == 0 && b == POINT) || (a == POINT && b == 0);
                }
                if (a == 0) {
                    return true;
                }
            }
            return false;
        }

        int elementOf(int i) {
            return i >= 0 && i < count && i < elements.length ? elements[i] : 0;
        }

        int codeOfPath(int i) {
            return i >= 0 && i < count && i < codes.length ? codes[i] : NONE;
        }

        int operatorOf(int i) {
            return i >= 0 && i < count && i < operators.length ? operators[i] : NONE;
        }

        int numberOf(int i) {
            return i >= 0 && i < count && i < numbers.length ? numbers[i] : NONE;
        }
    }

    /** Does a change to a draft. What does one path answers 1 when it changed something, 0, or a fault below 0. */
    private static final class Editor {
        private final Bytes draft = new Bytes(MOST_DRAFT);
        /** Where the documents and rows begin that the path has gone into, whose sizes go with what is in them. */
        private final int[] holders = new int[MOST_STEPS + 1];
        private final Bytes emptyDocument = new Bytes(LEAST_DOCUMENT);
        private final Bytes digits = new Bytes(10);
        private final Bytes sum = new Bytes(8);
        private int holderCount = 0;
        private int holderKind = DOCUMENT;
        /** The element at the latest step, NONE when there is none. */
        private int element = NONE;
        private int stepFrom = 0;
        private int stepTo = 0;
        private boolean overfull = false;
        /** The path that a fault is told with. */
        private int failed = NONE;

        Editor() {
            emptyDocument.becomeEmptyDocument();
        }

        int perform(Plan plan) {
            int changed = 0;
            overfull = false;
            for (int i = 0; i < plan.count; i++) {
                failed = i;
                int answer = performPath(plan.script, plan.elementOf(i), plan.codeOfPath(i));
                if (answer < 0) {
                    return answer;
                }
                changed += answer;
            }
            failed = NONE;
            if (overfull || draft.length > MOST_BYTES || deepest(draft, 0, 1) > MOST_DEPTH) {
                return -TOO_LARGE;
            }
            return changed;
        }

        private int performPath(Bytes script, int argument, int code) {
            boolean making = code != UNSET && code != PULL;
            if (!reach(script, argument + 1, script.nameEnd(argument), making)) {
                return making ? -NO_WAY : 0;
            }
            switch (code) {
                case SET:
                    return setValue(script, argument);
                case UNSET:
                    return unsetValue();
                case INC:
                    return element == NONE ? setValue(script, argument) : increase(script, argument);
                case PUSH:
                    return addItem(script, argument);
                case PULL:
                    return pullItems(script, argument);
                case ADD_TO_SET:
                    return hasItem(script, argument) ? 0 : addItem(script, argument);
                default:
                    return 0;
            }
        }

        /** Goes a path: whether its last step has an element or, when making, a free place. */
        private boolean reach(Bytes script, int path, int end, boolean making) {
            holderCount = 0;
            enter(0, DOCUMENT);
            stepTo = path - 1;
            for (int n = 0; n < MOST_STEPS && stepTo < end; n++) {
                stepFrom = stepTo + 1;
                stepTo = stepEnd(script, stepFrom, end);
                boolean free = findStep(script);
                if (element == NONE && !(making && free)) {
                    return false;
                }
                if (stepTo < end) {
                    if (element == NONE) {
                        addElement(DOCUMENT, script, emptyDocument, 0, LEAST_DOCUMENT);
                    }
                    if (!isHolder(draft.at(element))) {
                        return false;
                    }
                    enter(draft.valueStart(element), draft.at(element));
                }
            }
            return true;
        }

        private static int stepEnd(Bytes script, int from, int end) {
            for (int i = from; i < end; i++) {
                if (script.at(i) == POINT) {
                    return i;
                }
            }
            return end;
        }

        private void enter(int holder, int kind) {
            if (holderCount < holders.length) {
                holders[holderCount] = holder;
                holderCount++;
                holderKind = kind;
            }
        }

        private int holder() {
            return holderCount > 0 && holderCount <= holders.length ? holders[holderCount - 1] : 0;
        }

        /**
         * Finds the element of the step in the holder; if it has none, tells whether one could come there.
         * Items bear their numbers as names, so that a step meets an item, too, by its bytes alone.
         */
        private boolean findStep(Bytes script) {
            int last = draft.lastOf(holder());
            int at = holder() + SIZE_BYTES;
            int count = 0;
            for (; count < draft.length && at < last; count++) {
                if (sameRange(draft, at + 1, draft.nameEnd(at), script, stepFrom, stepTo)) {
                    element = at;
                    return false;
                }
                at = draft.valueEnd(at);
            }
            element = NONE;
            if (holderKind != ROW) {
                return true;
            }
            digits.becomeDigits(count);
            return sameRange(digits, 0, digits.length, script, stepFrom, stepTo);
        }

        private int setValue(Bytes script, int argument) {
            int from = script.valueStart(argument);
            int to = script.valueEnd(argument);
            if (element == NONE) {
                addElement(script.at(argument), script, script, from, to);
                return 1;
            }
            return replaceValue(script.at(argument), script, from, to);
        }

        private int unsetValue() {
            if (holderKind == ROW) {
                return replaceValue(NOTHING, emptyDocument, 0, 0);
            }
            resize(element, draft.valueEnd(element) - element, 0);
            return 1;
        }

        private int increase(Bytes script, int argument) {
            int kind = draft.at(element);
            if (!isNumber(kind)) {
                return -WRONG_CLASS;
            }
            long a = draft.numberOf(element);
            long b = script.numberOf(argument);
            long total = a + b;
            if (((a ^ total) & (b ^ total)) < 0) {
                return -TOO_GREAT;
            }
            boolean small = kind == WHOLE && script.at(argument) == WHOLE && total == (int) total;
            sum.becomeNumber(total);
            return replaceValue(small ? WHOLE : LONG_WHOLE, sum, 0, small ? 4 : 8);
        }

        private int addItem(Bytes script, int argument) {
            if (element == NONE) {
                addElement(ROW, script, emptyDocument, 0, LEAST_DOCUMENT);
            }
            if (draft.at(element) != ROW) {
                return -WRONG_CLASS;
            }
            enter(draft.valueStart(element), ROW);
            digits.becomeDigits(draft.countElements(holder()));
            stepFrom = 0;
            stepTo = digits.length;
            addElement(script.at(argument), digits, script, script.valueStart(argument), script.valueEnd(argument));
            return 1;
        }

        /** Whether the element is a row with an item that is SAME as the argument. */
        private boolean hasItem(Bytes script, int argument) {
            if (element == NONE || draft.at(element) != ROW) {
                return false;
            }
            int row = draft.valueStart(element);
            int last = draft.lastOf(row);
            int item = row + SIZE_BYTES;
            for (int n = 0; n < draft.length && item < last; n++) {
                if (sameValues(draft, item, script, argument, 0)) {
                    return true;
                }
                item = draft.valueEnd(item);
            }
            return false;
        }

        /** Items that stay are moved up in place: their numbers never get longer, so none is overwritten. */
        private int pullItems(Bytes script, int argument) {
            if (draft.at(element) != ROW) {
                return -WRONG_CLASS;
            }
            enter(draft.valueStart(element), ROW);
            int last = draft.lastOf(holder());
            int item = holder() + SIZE_BYTES;
            int target = item;
            int kept = 0;
            for (int n = 0; n < draft.length && item < last; n++) {
                int next = draft.valueEnd(item);
                if (!sameValues(draft, item, script, argument, 0)) {
                    target = moveItem(item, next, target, kept);
                    kept++;
                }
                item = next;
            }
            resize(target, last - target, 0);
            return target < last ? 1 : 0;
        }

        private int moveItem(int item, int itemEnd, int target, int number) {
            int value = draft.valueStart(item);
            int kind = draft.at(item);
            digits.becomeDigits(number);
            int newValue = target + 2 + digits.length;
            draft.put(target, kind);
            draft.write(target + 1, digits, 0, digits.length);
            draft.put(newValue - 1, 0);
            draft.write(newValue, draft, value, itemEnd);
            return newValue + itemEnd - value;
        }

        /** An element comes behind those of the holder; its name is what stands from stepFrom to stepTo. */
        private void addElement(int kind, Bytes nameSource, Bytes source, int from, int to) {
            int nameLength = stepTo - stepFrom;
            element = draft.lastOf(holder());
            if (resize(element, 0, 2 + nameLength + to - from)) {
                draft.put(element, kind);
                draft.write(element + 1, nameSource, stepFrom, stepTo);
                draft.put(element + 1 + nameLength, 0);
                draft.write(element + 2 + nameLength, source, from, to);
            }
        }

        private int replaceValue(int kind, Bytes source, int from, int to) {
            int start = draft.valueStart(element);
            int end = draft.valueEnd(element);
            if (draft.at(element) == kind && sameRange(draft, start, end, source, from, to)) {
                return 0;
            }
            if (resize(start, end - start, to - from)) {
                draft.put(element, kind);
                draft.write(start, source, from, to);
            }
            return 1;
        }

        private boolean resize(int at, int oldCount, int newCount) {
            if (!draft.resize(at, oldCount, newCount)) {
                overfull = true;
                return false;
            }
            for (int n = 0; n < holderCount && n < holders.length; n++) {
                draft.putInt(holders[n], draft.intAt(holders[n]) + newCount - oldCount);
            }
            return true;
        }
    }
}
