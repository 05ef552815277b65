/**
 * A book of classes and instances by which it is found out, step by step, that a type is of a
 * class. The numbered promises are in the project's document; README.md tells how to use it.
 *
 * <p>All rows are made by the constructor and used again, so that no call makes an object.
 */
public final class DictProof {
    public static final int NONE = -1, UNKNOWN = -101, OUTSIDE = -102, STATE = -103, FULL = -104;

    private static final int MOST_CLASSES = 4;
    private static final int MOST_INSTANCES = 6;
    private static final int MOST_CONDITIONS = 2;
    private static final int MOST_SLOTS = 4;
    private static final int MOST_SEEN = 6;
    private static final int MOST_LETTERS = 84;
    private static final int MOST_HEAD = 5;
    private static final int MOST_SIZE = 9;
    private static final int MOST_TIMES = 30;
    private static final int VARIABLES = 2;

    private static final int SPARE = 1;
    private static final int HIDDEN = 2;
    private static final int FIRST = 3;
    private static final int SOLE = 4;
    private static final int KINDS = 5;

    private static final int FOUND = 1;
    private static final int STUCK = 0;
    private static final int UNCLEAR = -2;

    /**
     * Of each thing that can be seen of an instance: the kinds, as bits, of which it is so. Beside a
     * plain one a FIRST one is taken; alone all but a HIDDEN one are; beside a SPARE one a plain and
     * a FIRST one are (a SOLE one is never taken beside another); beside a plain one it is unclear
     * with another plain one and with a SOLE one.
     */
    private static final int[] SO_OF_KINDS = {8, 27, 9, 17};

    private final int[] page = new int[MOST_LETTERS];
    private int letters = 0;

    private Book current = new Book();
    private Book draft = new Book();
    private int booksRead = 0;
    private final Reader reader = new Reader();
    private final Meeting meeting = new Meeting();

    private final Desk desk = new Desk();
    private final Desk kept = new Desk();
    private boolean hasImage = false;

    private final Finder finder = new Finder();
    private final int[] put = new int[VARIABLES];
    private final Shape drawnShape = new Shape();
    private long drawSeed = 0;

    public DictProof() {
    }

    // ---- the book

    public int letter(int code) {
        if (code < 32 || code > 126) {
            return OUTSIDE;
        }
        if (letters >= MOST_LETTERS) {
            return FULL;
        }
        page[letters] = code;
        letters++;
        return letters;
    }

    public int blank() {
        int had = letters;
        letters = 0;
        return had;
    }

    public int fault() {
        return readPage();
    }

    public int book() {
        if (readPage() < letters || !reader.isWhole()) {
            return STATE;
        }
        Book gone = current;
        current = draft;
        draft = gone;
        current.settle(meeting);
        desk.startWith(current);
        hasImage = false;
        letters = 0;
        booksRead++;
        return current.instances;
    }

    public int type(int slot) {
        if (slot < 0 || slot >= MOST_SLOTS) {
            return UNKNOWN;
        }
        if (booksRead == 0 || !pageIsType()) {
            return STATE;
        }
        if (letters > MOST_SIZE) {
            return FULL;
        }
        Shape shape = desk.slots[slot];
        shape.clear();
        for (int i = 0; i < letters; i++) {
            shape.add(Shape.signOf(page[i]));
        }
        shape.settle();
        letters = 0;
        return shape.size;
    }

    /** Reads the page into the draft: the place of the first wrong letter, or how many there are. */
    private int readPage() {
        reader.start(draft);
        for (int i = 0; i < letters; i++) {
            if (!reader.accepts(page[i])) {
                return i;
            }
        }
        return letters;
    }

    private boolean pageIsType() {
        int lacking = 1;
        for (int i = 0; i < letters; i++) {
            int sign = Shape.signOf(page[i]);
            if (sign == NONE || lacking == 0) {
                return false;
            }
            lacking += Shape.partsOf(sign) - 1;
        }
        return lacking == 0;
    }

    // ---- classes, instances

    public int about(int number, int what) {
        if (!isClass(number)) {
            return UNKNOWN;
        }
        switch (what) {
            case 0:
                return current.right[number];
            case 1:
                return current.above[number];
            case 2:
                return Integer.bitCount(current.owned[number]);
            default:
                return OUTSIDE;
        }
    }

    public int instance(int instance, int what) {
        if (!isInstance(instance)) {
            return UNKNOWN;
        }
        Rule rule = current.rules[instance];
        switch (what) {
            case 0:
                return desk.kinds[instance];
            case 1:
                return rule.owner;
            case 2:
                return rule.head.size;
            case 3:
                return rule.conditions;
            case 4:
                return current.sound >> instance & 1;
            case 5:
                return desk.sortsOf(instance);
            case 6:
                return askAmong(desk.sortsOf(instance));
            case 7:
                finder.work(current, desk.kinds, rule.head);
                return lackedAsWorked(rule);
            default:
                return OUTSIDE;
        }
    }

    public int as(int instance, int kind) {
        if (!isInstance(instance)) {
            return UNKNOWN;
        }
        if (!isKind(kind)) {
            return OUTSIDE;
        }
        int own = desk.kinds[instance];
        boolean such = kind == 0 || kind == own || kind == FIRST && own == SOLE;
        return such ? instance : NONE;
    }

    public int change(int instance, int kind) {
        if (!isInstance(instance)) {
            return UNKNOWN;
        }
        if (!isKind(kind)) {
            return OUTSIDE;
        }
        int was = desk.kinds[instance];
        desk.kinds[instance] = kind;
        return was;
    }

    public int pair(int one, int other, int what) {
        if (!isInstance(one) || !isInstance(other) || one == other) {
            return UNKNOWN;
        }
        switch (what) {
            case 0:
                return asNumber(overlap(one, other));
            case 1:
                return asNumber(clash(one, other));
            case 2:
                return asNumber(current.isFiner(one, other));
            default:
                return OUTSIDE;
        }
    }

    public int fits(int instance, int slot) {
        if (!isInstance(instance) || !isFilled(slot)) {
            return UNKNOWN;
        }
        return asNumber(current.rules[instance].head.covers(desk.slots[slot], 0, put));
    }

    private boolean isClass(int number) {
        return number >= 0 && number < current.classes;
    }

    private boolean isInstance(int instance) {
        return instance >= 0 && instance < current.instances;
    }

    private boolean isFilled(int slot) {
        return slot >= 0 && slot < MOST_SLOTS && desk.slots[slot].size > 0;
    }

    private static boolean isKind(int kind) {
        return kind >= 0 && kind < KINDS;
    }

    private static int asNumber(boolean so) {
        return so ? 1 : 0;
    }

    private boolean overlap(int one, int other) {
        return current.rules[one].owner == current.rules[other].owner
            && desk.kinds[one] != HIDDEN
            && desk.kinds[other] != HIDDEN
            && current.canMeet(one, other);
    }

    private boolean clash(int one, int other) {
        if (!overlap(one, other)) {
            return false;
        }
        boolean ordered = current.isFiner(one, other) || current.isFiner(other, one);
        return !ordered || desk.kinds[one] == SOLE || desk.kinds[other] == SOLE;
    }

    private static int askAmong(int sorts) {
        if (sorts == 0) {
            return NONE;
        }
        int best = NONE;
        int fewest = KINDS + 1;
        for (int what = 0; what < SO_OF_KINDS.length; what++) {
            int ifSo = Integer.bitCount(sorts & SO_OF_KINDS[what]);
            int ifNot = Integer.bitCount(sorts & ~SO_OF_KINDS[what]);
            int worst = Math.max(ifSo, ifNot);
            if (worst < fewest) {
                fewest = worst;
                best = what;
            }
        }
        return best;
    }

    /** To be called when the finder has worked on the head of the instance. */
    private int lackedAsWorked(Rule rule) {
        int lacked = 0;
        for (int number = 0; number < rule.owner; number++) {
            Goal goal = finder.rootOf(number);
            boolean granted = goal.outcome == FOUND && (goal.needs & ~rule.granted) == 0;
            if ((current.right[rule.owner] >> number & 1) == 1 && !granted) {
                lacked |= 1 << number;
            }
        }
        return lacked;
    }

    // ---- goals

    public int goal(int number, int slot, int what) {
        if (!isClass(number) || !isFilled(slot)) {
            return UNKNOWN;
        }
        if (what < 0 || what > 6) {
            return OUTSIDE;
        }
        return told(findGoal(number, slot), what);
    }

    public int entry(int number, int slot, int place) {
        if (!isClass(number) || !isFilled(slot)) {
            return UNKNOWN;
        }
        Goal goal = findGoal(number, slot);
        if (goal.outcome != FOUND || place < 0 || place >= goal.length) {
            return UNKNOWN;
        }
        return goal.numberAt(place);
    }

    public int need(int number, int slot, int need, int variable) {
        if (!isClass(number) || !isFilled(slot)) {
            return UNKNOWN;
        }
        if (!isClass(need) || variable < 0 || variable >= VARIABLES) {
            return OUTSIDE;
        }
        int needs = findGoal(number, slot).needs;
        int bit = needBit(need, variable);
        if ((needs & bit) == 0) {
            return 0;
        }
        return (current.plainOf(needs) & bit) != 0 ? 2 : 1;
    }

    private Goal findGoal(int number, int slot) {
        finder.work(current, desk.kinds, desk.slots[slot]);
        return finder.rootOf(number);
    }

    private int told(Goal goal, int what) {
        if (what == 0) {
            return goal.outcome;
        }
        if (goal.outcome != FOUND) {
            return NONE;
        }
        switch (what) {
            case 1:
                return goal.length;
            case 2:
                return goal.worth;
            case 3:
                return Long.bitCount(goal.within);
            case 4:
                return goal.depth;
            case 5:
                return Integer.bitCount(goal.needs);
            default:
                return Integer.bitCount(current.plainOf(goal.needs));
        }
    }

    private static int needBit(int number, int variable) {
        return 1 << VARIABLES * number + variable;
    }

    // ---- what is seen

    public int see(int instance, int what, boolean so) {
        if (!isInstance(instance)) {
            return UNKNOWN;
        }
        if (what < 0 || what >= SO_OF_KINDS.length) {
            return OUTSIDE;
        }
        if (desk.seen >= MOST_SEEN) {
            return FULL;
        }
        desk.keepSeen(instance, so ? SO_OF_KINDS[what] : ~SO_OF_KINDS[what]);
        return desk.seen;
    }

    public int forget() {
        int was = desk.seen;
        desk.seen = 0;
        return was;
    }

    public int drawn(int times, int seed, int what) {
        if (times < 1 || times > MOST_TIMES || seed < 0 || what < 0 || what > 2) {
            return OUTSIDE;
        }
        if (booksRead == 0) {
            return STATE;
        }
        drawSeed = seed;
        int found = 0;
        int signs = 0;
        for (int i = 0; i < times; i++) {
            int number = drawOf(current.classes);
            drawShape();
            finder.work(current, desk.kinds, drawnShape);
            found += asNumber(finder.rootOf(number).outcome == FOUND);
            signs += drawnShape.size;
        }
        if (what == 0) {
            return found;
        }
        return what == 1 ? signs : (int) drawSeed;
    }

    private int drawOf(int many) {
        drawSeed = (1103515245L * drawSeed + 12345L) & 0x7fffffffL;
        return many < 1 ? 0 : (int) (drawSeed / 65536L % many);
    }

    private void drawShape() {
        drawnShape.clear();
        int outer = drawOf(4);
        drawnShape.add(outer);
        for (int i = 0; i < Shape.partsOf(outer); i++) {
            int inner = drawOf(4);
            drawnShape.add(inner);
            for (int j = 0; j < Shape.partsOf(inner); j++) {
                drawnShape.add(drawOf(2));
            }
        }
        drawnShape.settle();
    }

    // ---- what is told of all

    public int image() {
        if (booksRead == 0) {
            return STATE;
        }
        kept.copyFrom(desk);
        hasImage = true;
        return desk.filledSlots();
    }

    public int restore() {
        if (!hasImage) {
            return STATE;
        }
        desk.copyFrom(kept);
        return desk.filledSlots();
    }

    public int count(int what) {
        switch (what) {
            case 0:
                return current.classes;
            case 1:
                return current.instances;
            case 2:
                return current.instances - Integer.bitCount(current.sound);
            case 3:
                return countPairs(false);
            case 4:
                return countPairs(true);
            case 5:
                return countLacked();
            case 6:
                return desk.filledSlots();
            case 7:
                return desk.differentTypes();
            case 8:
                return desk.seen;
            case 9:
                return letters;
            case 10:
                return booksRead;
            default:
                return OUTSIDE;
        }
    }

    public long digest() {
        long h = 1367L;
        for (int number = 0; number < current.classes; number++) {
            for (int what = 0; what <= 2; what++) {
                h = 31L * h + about(number, what);
            }
        }
        for (int i = 0; i < current.instances; i++) {
            for (int what = 0; what <= 7; what++) {
                h = 31L * h + instance(i, what);
            }
        }
        for (int slot = 0; slot < MOST_SLOTS; slot++) {
            h = digestSlot(h, slot);
        }
        for (int i = 0; i < letters; i++) {
            h = 31L * h + page[i];
        }
        for (int what = 0; what <= 10; what++) {
            h = 31L * h + count(what);
        }
        return h;
    }

    private long digestSlot(long before, int slot) {
        if (!isFilled(slot)) {
            return before;
        }
        long h = before;
        finder.work(current, desk.kinds, desk.slots[slot]);
        for (int number = 0; number < current.classes; number++) {
            for (int what = 0; what <= 6; what++) {
                h = 31L * h + told(finder.rootOf(number), what);
            }
        }
        return h;
    }

    private int countPairs(boolean clashing) {
        int many = 0;
        for (int one = 0; one < current.instances; one++) {
            for (int other = one + 1; other < current.instances; other++) {
                many += asNumber(clashing ? clash(one, other) : overlap(one, other));
            }
        }
        return many;
    }

    private int countLacked() {
        int many = 0;
        for (int i = 0; i < current.instances; i++) {
            finder.work(current, desk.kinds, current.rules[i].head);
            many += Integer.bitCount(lackedAsWorked(current.rules[i]));
        }
        return many;
    }

    /** A type: its letters in order, as signs from 0 to 5 ("i", "b", "l", "p", "x", "y"). */
    private static final class Shape {
        private static final int LEAST_VARIABLE = 4;
        private static final int[] PARTS = {0, 0, 1, 2, 0, 0};

        final int[] signs = new int[MOST_SIZE];
        /** Of each place: the place behind the type that begins there. */
        final int[] ends = new int[MOST_SIZE];
        /** Of each place: the first place where a like type begins, so that types are compared by a number. */
        final int[] firsts = new int[MOST_SIZE];
        int size = 0;

        static int signOf(int code) {
            switch (code) {
                case 'i':
                    return 0;
                case 'b':
                    return 1;
                case 'l':
                    return 2;
                case 'p':
                    return 3;
                case 'x':
                    return 4;
                case 'y':
                    return 5;
                default:
                    return NONE;
            }
        }

        static int partsOf(int sign) {
            return sign < 0 || sign >= PARTS.length ? 0 : PARTS[sign];
        }

        static int variableOf(int sign) {
            return sign < LEAST_VARIABLE ? NONE : sign - LEAST_VARIABLE;
        }

        void clear() {
            size = 0;
        }

        void add(int sign) {
            if (size < MOST_SIZE) {
                signs[size] = sign;
                size++;
            }
        }

        /** To be called when the type is whole. */
        void settle() {
            for (int place = size - 1; place >= 0; place--) {
                int end = place + 1;
                for (int part = 0; part < partsOf(signs[place]); part++) {
                    end = endOf(end);
                }
                ends[place] = end;
            }
            for (int place = 0; place < size; place++) {
                firsts[place] = firstLike(place);
            }
        }

        int endOf(int place) {
            return place < 0 || place >= size ? size : ends[place];
        }

        private int firstLike(int place) {
            for (int i = 0; i < place; i++) {
                if (isLike(i, place)) {
                    return i;
                }
            }
            return place;
        }

        private boolean isLike(int one, int other) {
            int length = ends[one] - one;
            if (length != ends[other] - other) {
                return false;
            }
            for (int i = 0; i < length && other + i < size; i++) {
                if (signs[one + i] != signs[other + i]) {
                    return false;
                }
            }
            return true;
        }

        int variableAt(int place) {
            return place < 0 || place >= size ? NONE : variableOf(signs[place]);
        }

        boolean hasVariable(int variable) {
            for (int i = 0; i < size; i++) {
                if (variableOf(signs[i]) == variable) {
                    return true;
                }
            }
            return false;
        }

        /** Whether this head fits what begins at a place of another type; put tells then what was put, by place. */
        boolean covers(Shape other, int start, int[] put) {
            for (int i = 0; i < put.length; i++) {
                put[i] = NONE;
            }
            int place = start;
            for (int i = 0; i < size; i++) {
                if (place < 0 || place >= other.size) {
                    return false;
                }
                int variable = signs[i] - LEAST_VARIABLE;
                if (variable < 0 || variable >= put.length) {
                    if (signs[i] != other.signs[place]) {
                        return false;
                    }
                    place++;
                } else {
                    if (put[variable] == NONE) {
                        put[variable] = place;
                    } else if (other.firsts[put[variable]] != other.firsts[place]) {
                        return false;
                    }
                    place = other.ends[place];
                }
            }
            return size > 0;
        }

        boolean isSameAs(Shape other) {
            if (size != other.size) {
                return false;
            }
            for (int i = 0; i < size; i++) {
                if (signs[i] != other.signs[i]) {
                    return false;
                }
            }
            return true;
        }

        void copyFrom(Shape other) {
            size = other.size;
            for (int i = 0; i < size; i++) {
                signs[i] = other.signs[i];
                ends[i] = other.ends[i];
                firsts[i] = other.firsts[i];
            }
        }
    }

    /** An instance as the book tells it; the kind that it has now is on the desk. */
    private static final class Rule {
        int kindRead = 0;
        int owner = 0;
        final Shape head = new Shape();
        int conditions = 0;
        final int[] wanted = new int[MOST_CONDITIONS];
        final int[] gap = new int[MOST_CONDITIONS];
        /** The needs, as bits, that its conditions and what is above these give. */
        int granted = 0;

        void startWith(int kind) {
            kindRead = kind;
            owner = 0;
            head.clear();
            conditions = 0;
        }

        boolean isSound() {
            return conditions == 0 || head.variableAt(0) == NONE;
        }

        boolean hasRoom() {
            return conditions < MOST_CONDITIONS && (head.hasVariable(0) || head.hasVariable(1));
        }

        void addCondition(int number, int variable) {
            if (conditions < MOST_CONDITIONS) {
                wanted[conditions] = number;
                gap[conditions] = variable;
                conditions++;
            }
        }
    }

    /** Classes and instances as they were read. */
    private static final class Book {
        int classes = 0;
        final int[] right = new int[MOST_CLASSES];
        final int[] above = new int[MOST_CLASSES];
        /** Of each class: the instances of it, as bits. */
        final int[] owned = new int[MOST_CLASSES];
        int instances = 0;
        final Rule[] rules = new Rule[MOST_INSTANCES];
        /** The instances that are sound, as bits. */
        int sound = 0;
        /** Of each instance: those than which its head is more special, as bits. */
        private final int[] finer = new int[MOST_INSTANCES];
        /** Of each instance: those whose heads fit some type that its head fits too, as bits. */
        private final int[] meets = new int[MOST_INSTANCES];
        private final int[] put = new int[VARIABLES];

        Book() {
            for (int i = 0; i < MOST_INSTANCES; i++) {
                rules[i] = new Rule();
            }
        }

        void clear() {
            classes = 0;
            instances = 0;
        }

        void addClass() {
            if (classes < MOST_CLASSES) {
                right[classes] = 0;
                classes++;
            }
        }

        void addRight(int number) {
            if (classes > 0) {
                right[classes - 1] |= 1 << number;
            }
        }

        void addInstance(int kind) {
            if (instances < MOST_INSTANCES) {
                rules[instances].startWith(kind);
                instances++;
            }
        }

        /** What is told again and again is found out once: heads and classes stay as they are. */
        void settle(Meeting meeting) {
            for (int number = 0; number < classes; number++) {
                settleClass(number);
            }
            sound = 0;
            for (int i = 0; i < instances; i++) {
                settleInstance(i);
            }
            for (int i = 0; i < instances; i++) {
                compareHeads(i, meeting);
            }
        }

        private void settleClass(int number) {
            owned[number] = 0;
            above[number] = right[number];
            for (int higher = 0; higher < number; higher++) {
                if ((right[number] >> higher & 1) == 1) {
                    above[number] |= above[higher];
                }
            }
        }

        private void settleInstance(int i) {
            Rule rule = rules[i];
            rule.head.settle();
            owned[rule.owner] |= 1 << i;
            if (rule.isSound()) {
                sound |= 1 << i;
            }
            rule.granted = 0;
            for (int k = 0; k < rule.conditions; k++) {
                rule.granted |= needBit(rule.wanted[k], rule.gap[k]);
                rule.granted |= needsAbove(rule.wanted[k], rule.gap[k]);
            }
        }

        private void compareHeads(int one, Meeting meeting) {
            finer[one] = 0;
            meets[one] = 0;
            Shape head = rules[one].head;
            for (int other = 0; other < instances; other++) {
                Shape second = rules[other].head;
                if (second.covers(head, 0, put) && !head.covers(second, 0, put)) {
                    finer[one] |= 1 << other;
                }
                if (meeting.isPossible(head, second)) {
                    meets[one] |= 1 << other;
                }
            }
        }

        boolean isFiner(int one, int other) {
            return (finer[one] >> other & 1) == 1;
        }

        boolean canMeet(int one, int other) {
            return (meets[one] >> other & 1) == 1;
        }

        /** The one of a group (as bits) that is more special than each other one of it, or NONE. */
        int mostSpecial(int group) {
            for (int i = 0; i < instances; i++) {
                int others = group & ~(1 << i);
                if (others != group && (others & ~finer[i]) == 0) {
                    return i;
                }
            }
            return NONE;
        }

        int plainOf(int needs) {
            int covered = 0;
            for (int number = 0; number < classes; number++) {
                for (int variable = 0; variable < VARIABLES; variable++) {
                    if ((needs & needBit(number, variable)) != 0) {
                        covered |= needsAbove(number, variable);
                    }
                }
            }
            return needs & ~covered;
        }

        private int needsAbove(int number, int variable) {
            int needs = 0;
            for (int higher = 0; higher < number; higher++) {
                if ((above[number] >> higher & 1) == 1) {
                    needs |= needBit(higher, variable);
                }
            }
            return needs;
        }
    }

    /** Reads a book letter by letter, and tells of each letter whether some book has it there. */
    private static final class Reader {
        private static final int CLASS = 0;
        private static final int SECOND_DIGIT = 1;
        private static final int CLASS_END = 2;
        private static final int KIND = 3;
        private static final int OWNER = 4;
        private static final int HEAD = 5;
        private static final int HEAD_END = 6;
        private static final int GAP = 7;

        private Book into = null;
        private Rule rule = null;
        private int state = CLASS;
        private int digit = 0;
        private int lacking = 0;

        void start(Book book) {
            into = book;
            into.clear();
            rule = into.rules[0];
            state = CLASS;
        }

        boolean isWhole() {
            return state == HEAD_END;
        }

        boolean accepts(int code) {
            if (into == null || rule == null) {
                return false;
            }
            switch (state) {
                case CLASS:
                    return acceptsClass(code);
                case SECOND_DIGIT:
                    return acceptsSecondDigit(code) || acceptsClassEnd(code);
                case CLASS_END:
                    return acceptsClassEnd(code);
                case KIND:
                    return acceptsKind(code);
                case OWNER:
                    return acceptsOwner(code);
                case HEAD:
                    return acceptsHead(code);
                case HEAD_END:
                    return acceptsCondition(code) || acceptsNext(code);
                default:
                    return acceptsGap(code);
            }
        }

        private boolean acceptsClass(int code) {
            if (code == '-') {
                into.addClass();
                state = CLASS_END;
                return true;
            }
            digit = code - '0';
            if (digit < 0 || digit >= into.classes) {
                return false;
            }
            into.addClass();
            into.addRight(digit);
            state = SECOND_DIGIT;
            return true;
        }

        private boolean acceptsSecondDigit(int code) {
            int second = code - '0';
            if (second <= digit || second >= into.classes - 1) {
                return false;
            }
            into.addRight(second);
            state = CLASS_END;
            return true;
        }

        private boolean acceptsClassEnd(int code) {
            if (code == ';') {
                state = KIND;
                return true;
            }
            if (code != ',' || into.classes >= MOST_CLASSES) {
                return false;
            }
            state = CLASS;
            return true;
        }

        private boolean acceptsKind(int code) {
            int kind = kindOf(code);
            if (kind == NONE || into.instances >= MOST_INSTANCES) {
                return false;
            }
            rule = into.rules[into.instances];
            into.addInstance(kind);
            state = OWNER;
            return true;
        }

        private static int kindOf(int code) {
            switch (code) {
                case 'n':
                    return 0;
                case 'd':
                    return SPARE;
                case 'h':
                    return HIDDEN;
                case 'f':
                    return FIRST;
                case 's':
                    return SOLE;
                default:
                    return NONE;
            }
        }

        private boolean isClassDigit(int code) {
            return code >= '0' && code - '0' < into.classes;
        }

        private boolean acceptsOwner(int code) {
            if (!isClassDigit(code)) {
                return false;
            }
            rule.owner = code - '0';
            lacking = 1;
            state = HEAD;
            return true;
        }

        private boolean acceptsHead(int code) {
            int sign = Shape.signOf(code);
            int least = rule.head.size + lacking + Shape.partsOf(sign);
            if (sign == NONE || least > MOST_HEAD) {
                return false;
            }
            rule.head.add(sign);
            lacking += Shape.partsOf(sign) - 1;
            if (lacking == 0) {
                state = HEAD_END;
            }
            return true;
        }

        private boolean acceptsCondition(int code) {
            if (!isClassDigit(code) || !rule.hasRoom()) {
                return false;
            }
            digit = code - '0';
            state = GAP;
            return true;
        }

        private boolean acceptsGap(int code) {
            int variable = Shape.variableOf(Shape.signOf(code));
            if (variable == NONE || !rule.head.hasVariable(variable)) {
                return false;
            }
            rule.addCondition(digit, variable);
            state = HEAD_END;
            return true;
        }

        private boolean acceptsNext(int code) {
            if (code != ',' || into.instances >= MOST_INSTANCES) {
                return false;
            }
            state = KIND;
            return true;
        }
    }

    /** What changes while a book stays: an image is another one of these. */
    private static final class Desk {
        final int[] kinds = new int[MOST_INSTANCES];
        final Shape[] slots = new Shape[MOST_SLOTS];
        int seen = 0;
        private final int[] seenOf = new int[MOST_SEEN];
        /** The kinds, as bits, that what was seen leaves. */
        private final int[] leaves = new int[MOST_SEEN];

        Desk() {
            for (int i = 0; i < MOST_SLOTS; i++) {
                slots[i] = new Shape();
            }
        }

        void startWith(Book book) {
            for (int i = 0; i < book.instances; i++) {
                kinds[i] = book.rules[i].kindRead;
            }
            for (int i = 0; i < MOST_SLOTS; i++) {
                slots[i].clear();
            }
            seen = 0;
        }

        void copyFrom(Desk other) {
            for (int i = 0; i < MOST_INSTANCES; i++) {
                kinds[i] = other.kinds[i];
            }
            for (int i = 0; i < MOST_SLOTS; i++) {
                slots[i].copyFrom(other.slots[i]);
            }
            seen = other.seen;
            for (int i = 0; i < MOST_SEEN; i++) {
                seenOf[i] = other.seenOf[i];
                leaves[i] = other.leaves[i];
            }
        }

        void keepSeen(int instance, int sorts) {
            if (seen < MOST_SEEN) {
                seenOf[seen] = instance;
                leaves[seen] = sorts;
                seen++;
            }
        }

        int sortsOf(int instance) {
            int sorts = (1 << KINDS) - 1;
            for (int i = 0; i < seen; i++) {
                if (seenOf[i] == instance) {
                    sorts &= leaves[i];
                }
            }
            return sorts;
        }

        int filledSlots() {
            int many = 0;
            for (int i = 0; i < MOST_SLOTS; i++) {
                many += asNumber(slots[i].size > 0);
            }
            return many;
        }

        int differentTypes() {
            int many = 0;
            for (int i = 0; i < MOST_SLOTS; i++) {
                many += asNumber(slots[i].size > 0 && !isEarlier(i));
            }
            return many;
        }

        private boolean isEarlier(int slot) {
            for (int i = 0; i < slot; i++) {
                if (slots[i].isSameAs(slots[slot])) {
                    return true;
                }
            }
            return false;
        }
    }

    /** A class and what begins at a place of the type that is worked on, with all that is told of it. */
    private static final class Goal {
        private static final int REST = 1009;

        int outcome = STUCK;
        int length = 0;
        int worth = 0;
        int depth = 0;
        int needs = 0;
        /** The different goals in it, as bits. */
        long within = 0;
        /** The first number of its dictionary. */
        private int number = 0;
        private int partCount = 0;
        private final Goal[] parts = new Goal[MOST_CONDITIONS];

        void failAs(int how) {
            outcome = how;
            length = 0;
            needs = 0;
            partCount = 0;
        }

        void findAsNeed(int ownClass, int variable, long ownBit) {
            begin(10 + VARIABLES * ownClass + variable, ownBit);
            worth = number;
            needs = needBit(ownClass, variable);
        }

        void begin(int firstNumber, long ownBit) {
            outcome = FOUND;
            number = firstNumber;
            length = 1;
            worth = 7 * (firstNumber + 1) % REST;
            depth = 1;
            needs = 0;
            within = ownBit;
            partCount = 0;
        }

        /** The parts come in order, each of them found. */
        void join(Goal part) {
            if (partCount >= MOST_CONDITIONS) {
                return;
            }
            parts[partCount] = part;
            partCount++;
            length += part.length;
            worth = (worth + (partCount + 1) * part.worth) % REST;
            depth = depth > part.depth ? depth : part.depth + 1;
            needs |= part.needs;
            within |= part.within;
        }

        int numberAt(int place) {
            Goal at = this;
            int left = place;
            // Each step goes to a smaller type, so there are at most MOST_SIZE of them.
            for (int step = 0; step < MOST_SIZE && left > 0; step++) {
                left--;
                Goal next = null;
                for (int i = 0; i < at.partCount && next == null; i++) {
                    if (left < at.parts[i].length) {
                        next = at.parts[i];
                    } else {
                        left -= at.parts[i].length;
                    }
                }
                if (next == null) {
                    return UNKNOWN;
                }
                at = next;
            }
            return at.number;
        }
    }

    /**
     * Finds all goals of one type and the types in it. Conditions are on smaller types, which begin
     * at later places: from the last place on, each goal has its parts ready, without recursion.
     */
    private static final class Finder {
        private final Goal[] goals = new Goal[MOST_CLASSES * MOST_SIZE];
        private final int[] byKind = new int[KINDS];
        /** Of each instance: what was put for its variables at the place that is worked on. */
        private final int[][] puts = new int[MOST_INSTANCES][VARIABLES];
        private Book book = null;
        private Shape shape = null;

        Finder() {
            for (int i = 0; i < MOST_CLASSES * MOST_SIZE; i++) {
                goals[i] = new Goal();
            }
        }

        void work(Book from, int[] kinds, Shape on) {
            book = from;
            shape = on;
            sortByKind(kinds);
            for (int place = on.size - 1; place >= 0; place--) {
                int fitting = fittingAt(place);
                for (int number = 0; number < from.classes; number++) {
                    findOne(number, place, fitting & from.owned[number]);
                }
            }
        }

        Goal rootOf(int number) {
            return goalAt(number, 0);
        }

        private Goal goalAt(int number, int place) {
            boolean there = number >= 0 && number < MOST_CLASSES && place >= 0 && place < MOST_SIZE;
            return goals[there ? number * MOST_SIZE + place : 0];
        }

        private void sortByKind(int[] kinds) {
            for (int kind = 0; kind < KINDS; kind++) {
                byKind[kind] = 0;
                for (int i = 0; i < book.instances; i++) {
                    if (kinds[i] == kind) {
                        byKind[kind] |= 1 << i;
                    }
                }
            }
        }

        private int fittingAt(int place) {
            int fitting = 0;
            for (int i = 0; i < book.instances; i++) {
                if (book.rules[i].head.covers(shape, place, puts[i])) {
                    fitting |= 1 << i;
                }
            }
            return fitting & book.sound & ~byKind[HIDDEN];
        }

        private void findOne(int number, int place, int meant) {
            Goal goal = goalAt(number, place);
            long ownBit = 1L << number * MOST_SIZE + shape.firsts[place];
            int variable = shape.variableAt(place);
            if (variable != NONE) {
                goal.findAsNeed(number, variable, ownBit);
                return;
            }
            int taken = takenOf(meant);
            if (taken == NONE) {
                goal.failAs(meant == 0 ? STUCK : UNCLEAR);
                return;
            }
            goal.begin(taken, ownBit);
            joinConditions(goal, book.rules[taken], puts[taken]);
        }

        private int takenOf(int meant) {
            if (Integer.bitCount(meant) > 1 && (meant & byKind[SOLE]) != 0) {
                return NONE;
            }
            int group = meant & (byKind[FIRST] | byKind[SOLE]);
            if (group == 0) {
                group = meant & ~byKind[SPARE];
            }
            return book.mostSpecial(group == 0 ? meant : group);
        }

        private void joinConditions(Goal goal, Rule rule, int[] put) {
            for (int i = 0; i < rule.conditions; i++) {
                Goal part = goalAt(rule.wanted[i], put[rule.gap[i]]);
                if (part.outcome != FOUND) {
                    goal.failAs(part.outcome);
                    return;
                }
                goal.join(part);
            }
        }
    }

    /**
     * Finds out whether two heads, each with variables of its own, fit one type without variables:
     * places that must be alike are brought into groups, and no group may be inside itself.
     */
    private static final class Meeting {
        private static final int NODES = 2 * MOST_HEAD;
        private static final int MOST_PENDING = 4 * NODES;

        private final int[] signs = new int[NODES];
        private final int[] leaders = new int[NODES];
        private final int[] firstPart = new int[NODES];
        private final int[] secondPart = new int[NODES];
        private final boolean[] ending = new boolean[NODES];
        private final int[] oneSide = new int[MOST_PENDING];
        private final int[] otherSide = new int[MOST_PENDING];
        private int pending = 0;

        boolean isPossible(Shape one, Shape other) {
            if (one.size > MOST_HEAD || other.size > MOST_HEAD) {
                return false;
            }
            for (int node = 0; node < NODES; node++) {
                leaders[node] = node;
                signs[node] = 0;
                firstPart[node] = NONE;
                secondPart[node] = NONE;
            }
            pending = 0;
            load(one, 0);
            load(other, MOST_HEAD);
            expectAlike(0, MOST_HEAD);
            return bringTogether() && comesToAnEnd();
        }

        private void load(Shape shape, int offset) {
            for (int place = 0; place < shape.size; place++) {
                int node = offset + place;
                int sign = shape.signs[place];
                signs[node] = sign;
                if (Shape.partsOf(sign) > 0) {
                    firstPart[node] = node + 1;
                }
                if (Shape.partsOf(sign) > 1) {
                    secondPart[node] = offset + shape.endOf(place + 1);
                }
                if (shape.firsts[place] != place) {
                    expectAlike(offset + shape.firsts[place], node);
                }
            }
        }

        private void expectAlike(int one, int other) {
            boolean there = one >= 0 && one < NODES && other >= 0 && other < NODES;
            if (there && pending < MOST_PENDING) {
                oneSide[pending] = one;
                otherSide[pending] = other;
                pending++;
            }
        }

        private boolean bringTogether() {
            for (int next = 0; next < pending && next < MOST_PENDING; next++) {
                if (!joinGroups(leaderOf(oneSide[next]), leaderOf(otherSide[next]))) {
                    return false;
                }
            }
            return true;
        }

        private int leaderOf(int node) {
            int at = node;
            for (int step = 0; step < NODES && leaders[at] != at; step++) {
                at = leaders[at];
            }
            return at;
        }

        private boolean joinGroups(int one, int other) {
            if (one == other) {
                return true;
            }
            if (Shape.variableOf(signs[one]) != NONE) {
                leaders[one] = other;
                return true;
            }
            leaders[other] = one;
            if (Shape.variableOf(signs[other]) != NONE) {
                return true;
            }
            expectAlike(firstPart[one], firstPart[other]);
            expectAlike(secondPart[one], secondPart[other]);
            return signs[one] == signs[other];
        }

        /** In each round all groups end whose parts do; what is inside itself never does. */
        private boolean comesToAnEnd() {
            for (int node = 0; node < NODES; node++) {
                ending[node] = false;
            }
            for (int round = 0; round < NODES; round++) {
                for (int node = 0; node < NODES; node++) {
                    ending[node] = partEnds(firstPart[node]) && partEnds(secondPart[node]);
                }
            }
            return ending[leaderOf(0)];
        }

        private boolean partEnds(int node) {
            return node < 0 || node >= NODES || ending[leaderOf(node)];
        }
    }
}
