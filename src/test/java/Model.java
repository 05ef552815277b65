import java.util.ArrayList;
import java.util.HashMap;
import java.util.HashSet;
import java.util.List;
import java.util.Map;
import java.util.Set;

/**
 * The document once more, as plainly as it can be said: texts, lists, recursion, nothing kept that
 * can be found out again. It shares no idea with the class that it is held against.
 */
final class Model {
    static final int NONE = -1, UNKNOWN = -101, OUTSIDE = -102, STATE = -103, FULL = -104;
    private static final String KIND_LETTERS = "ndhfs";

    record Instance(int owner, String head, List<Integer> wanted, List<Character> gaps) {
        boolean sound() {
            return wanted.isEmpty() || !isVariable(head);
        }
    }

    record Saw(int instance, int what, boolean so) {
    }

    record Result(int outcome, List<Integer> dictionary, int worth, int depth, Set<String> goals) {
    }

    private String page = "";
    private boolean hasBook = false;
    private List<Set<Integer>> right = new ArrayList<>();
    private List<Instance> instances = new ArrayList<>();
    private List<Integer> kinds = new ArrayList<>();
    private String[] slots = new String[4];
    private List<Saw> seen = new ArrayList<>();
    private int booksRead = 0;
    private List<Integer> keptKinds = null;
    private String[] keptSlots = null;
    private List<Saw> keptSeen = null;

    // ---- texts of types

    static boolean isVariable(String type) {
        return type.equals("x") || type.equals("y");
    }

    /** The place behind the type that begins at a place, or -1 if the text ends or errs ahead of that. */
    static int endOfType(String text, int from) {
        if (from >= text.length()) {
            return -1;
        }
        char c = text.charAt(from);
        if ("ibxy".indexOf(c) >= 0) {
            return from + 1;
        }
        if (c == 'l') {
            return endOfType(text, from + 1);
        }
        if (c == 'p') {
            int middle = endOfType(text, from + 1);
            return middle < 0 ? -1 : endOfType(text, middle);
        }
        return -1;
    }

    static boolean isType(String text) {
        return endOfType(text, 0) == text.length();
    }

    static List<String> partsOf(String type) {
        if (type.charAt(0) == 'l') {
            return List.of(type.substring(1));
        }
        if (type.charAt(0) == 'p') {
            int middle = endOfType(type, 1);
            return List.of(type.substring(1, middle), type.substring(middle));
        }
        return List.of();
    }

    /** What is put for each variable so that the head is the type, or null. */
    static Map<String, String> match(String head, String type) {
        Map<String, String> put = new HashMap<>();
        return match(head, type, put) ? put : null;
    }

    private static boolean match(String head, String type, Map<String, String> put) {
        if (isVariable(head)) {
            String before = put.putIfAbsent(head, type);
            return before == null || before.equals(type);
        }
        if (head.charAt(0) != type.charAt(0)) {
            return false;
        }
        List<String> one = partsOf(head);
        List<String> other = partsOf(type);
        for (int i = 0; i < one.size(); i++) {
            if (!match(one.get(i), other.get(i), put)) {
                return false;
            }
        }
        return true;
    }

    static boolean special(String one, String other) {
        return match(other, one) != null && match(one, other) == null;
    }

    // ---- unification by putting one text for a variable everywhere

    /** Whether some type without variables is fitted by both heads. */
    static boolean meet(String one, String other) {
        List<String[]> open = new ArrayList<>();
        open.add(new String[] {one, other.replace('x', 'v').replace('y', 'w')});
        while (!open.isEmpty()) {
            String[] next = open.remove(open.size() - 1);
            String a = next[0];
            String b = next[1];
            if (a.equals(b)) {
                continue;
            }
            if ("xyvw".contains(b) && !"xyvw".contains(a)) {
                String swap = a;
                a = b;
                b = swap;
            }
            if ("xyvw".contains(a)) {
                if (b.contains(a)) {
                    return false;
                }
                for (String[] rest : open) {
                    rest[0] = rest[0].replace(a, b);
                    rest[1] = rest[1].replace(a, b);
                }
                continue;
            }
            if (a.charAt(0) != b.charAt(0)) {
                return false;
            }
            List<String> left = wideParts(a);
            List<String> rightParts = wideParts(b);
            for (int i = 0; i < left.size(); i++) {
                open.add(new String[] {left.get(i), rightParts.get(i)});
            }
        }
        return true;
    }

    private static List<String> wideParts(String type) {
        String plain = type.replace('v', 'x').replace('w', 'y');
        if (type.charAt(0) == 'p') {
            int middle = endOfType(plain, 1);
            return List.of(type.substring(1, middle), type.substring(middle));
        }
        return type.charAt(0) == 'l' ? List.of(type.substring(1)) : List.of();
    }

    // ---- reading

    /** The text of a page as a book, or null: split at its signs, with no regard to what comes first. */
    private static Object[] readBook(String text) {
        String[] halves = text.split(";", -1);
        if (halves.length != 2) {
            return null;
        }
        String[] classTexts = halves[0].split(",", -1);
        String[] instanceTexts = halves[1].split(",", -1);
        if (classTexts.length > 4 || instanceTexts.length > 6) {
            return null;
        }
        List<Set<Integer>> above = new ArrayList<>();
        for (int i = 0; i < classTexts.length; i++) {
            Set<Integer> row = readClass(classTexts[i], i);
            if (row == null) {
                return null;
            }
            above.add(row);
        }
        List<Instance> rows = new ArrayList<>();
        List<Integer> kindRow = new ArrayList<>();
        for (String one : instanceTexts) {
            Instance row = readInstance(one, classTexts.length);
            if (row == null) {
                return null;
            }
            rows.add(row);
            kindRow.add(KIND_LETTERS.indexOf(one.charAt(0)));
        }
        return new Object[] {above, rows, kindRow};
    }

    private static Set<Integer> readClass(String text, int number) {
        Set<Integer> row = new HashSet<>();
        if (text.equals("-")) {
            return row;
        }
        if (text.isEmpty() || text.length() > 2) {
            return null;
        }
        for (int i = 0; i < text.length(); i++) {
            int digit = text.charAt(i) - '0';
            if (digit < 0 || digit >= number || i > 0 && text.charAt(i) <= text.charAt(i - 1)) {
                return null;
            }
            row.add(digit);
        }
        return row;
    }

    private static Instance readInstance(String text, int classes) {
        if (text.length() < 3 || KIND_LETTERS.indexOf(text.charAt(0)) < 0 || !isDigitOf(text.charAt(1), classes)) {
            return null;
        }
        int end = endOfType(text, 2);
        if (end < 0 || end - 2 > 5) {
            return null;
        }
        String head = text.substring(2, end);
        String rest = text.substring(end);
        if (rest.length() != 0 && rest.length() != 2 && rest.length() != 4) {
            return null;
        }
        List<Integer> wanted = new ArrayList<>();
        List<Character> gaps = new ArrayList<>();
        for (int i = 0; i < rest.length(); i += 2) {
            char gap = rest.charAt(i + 1);
            if (!isDigitOf(rest.charAt(i), classes) || gap != 'x' && gap != 'y' || head.indexOf(gap) < 0) {
                return null;
            }
            wanted.add(rest.charAt(i) - '0');
            gaps.add(gap);
        }
        return new Instance(text.charAt(1) - '0', head, wanted, gaps);
    }

    private static boolean isDigitOf(char c, int classes) {
        return c >= '0' && c < '0' + classes;
    }

    /** Whether some book begins with this text: tried by every ending that could be needed. */
    private static boolean begins(String text) {
        String[] endings = {"", "-;n0i", ";n0i", "n0i", "0i", "i", "ii", "iii", "iiii", "iiiii", "x", "y"};
        for (String ending : endings) {
            if (readBook(text + ending) != null) {
                return true;
            }
        }
        return false;
    }

    // ---- calls

    int letter(int code) {
        if (code < 32 || code > 126) {
            return OUTSIDE;
        }
        if (page.length() == 84) {
            return FULL;
        }
        page = page + (char) code;
        return page.length();
    }

    int blank() {
        int had = page.length();
        page = "";
        return had;
    }

    int fault() {
        for (int i = 0; i < page.length(); i++) {
            if (!begins(page.substring(0, i + 1))) {
                return i;
            }
        }
        return page.length();
    }

    @SuppressWarnings("unchecked")
    int book() {
        Object[] read = readBook(page);
        if (read == null) {
            return STATE;
        }
        right = (List<Set<Integer>>) read[0];
        instances = (List<Instance>) read[1];
        kinds = (List<Integer>) read[2];
        slots = new String[4];
        seen = new ArrayList<>();
        keptKinds = null;
        hasBook = true;
        booksRead++;
        page = "";
        return instances.size();
    }

    int type(int slot) {
        if (slot < 0 || slot > 3) {
            return UNKNOWN;
        }
        if (!hasBook || !isType(page)) {
            return STATE;
        }
        if (page.length() > 9) {
            return FULL;
        }
        slots[slot] = page;
        page = "";
        return slots[slot].length();
    }

    private boolean noClass(int number) {
        return number < 0 || number >= right.size();
    }

    private boolean noInstance(int number) {
        return number < 0 || number >= instances.size();
    }

    private boolean noSlot(int slot) {
        return slot < 0 || slot > 3 || slots[slot] == null;
    }

    private boolean isAbove(int high, int low) {
        for (int next : right.get(low)) {
            if (next == high || isAbove(high, next)) {
                return true;
            }
        }
        return false;
    }

    int about(int number, int what) {
        if (noClass(number)) {
            return UNKNOWN;
        }
        int bits = 0;
        if (what == 0) {
            for (int one : right.get(number)) {
                bits += 1 << one;
            }
            return bits;
        }
        if (what == 1) {
            for (int i = 0; i < right.size(); i++) {
                bits += isAbove(i, number) ? 1 << i : 0;
            }
            return bits;
        }
        return what == 2 ? (int) instances.stream().filter(i -> i.owner() == number).count() : OUTSIDE;
    }

    int instance(int number, int what) {
        if (noInstance(number)) {
            return UNKNOWN;
        }
        Instance one = instances.get(number);
        return switch (what) {
            case 0 -> kinds.get(number);
            case 1 -> one.owner();
            case 2 -> one.head().length();
            case 3 -> one.wanted().size();
            case 4 -> one.sound() ? 1 : 0;
            case 5 -> bitsOf(sorts(number));
            case 6 -> ask(sorts(number));
            case 7 -> bitsOf(lacks(number));
            default -> OUTSIDE;
        };
    }

    private static int bitsOf(Set<Integer> numbers) {
        int bits = 0;
        for (int one : numbers) {
            bits |= 1 << one;
        }
        return bits;
    }

    /**
     * Whether what can be seen is so for a kind: by a trial, a book of one class in which the
     * instance in question and, but for 1, another one with a like head are meant.
     */
    private static boolean wouldBe(int kind, int what) {
        List<Instance> trial = new ArrayList<>();
        List<Integer> trialKinds = new ArrayList<>();
        trial.add(new Instance(0, "i", List.of(), List.of()));
        trialKinds.add(kind);
        if (what != 1) {
            trial.add(new Instance(0, "i", List.of(), List.of()));
            trialKinds.add(what == 2 ? 1 : 0);
        }
        Result result = find(trial, trialKinds, 0, "i");
        if (what == 3) {
            return result.outcome() == -2;
        }
        return result.outcome() == 1 && result.dictionary().get(0) == 0;
    }

    private Set<Integer> sorts(int number) {
        Set<Integer> left = new HashSet<>();
        for (int kind = 0; kind < 5; kind++) {
            boolean can = true;
            for (Saw saw : seen) {
                can &= saw.instance() != number || wouldBe(kind, saw.what()) == saw.so();
            }
            if (can) {
                left.add(kind);
            }
        }
        return left;
    }

    private static int ask(Set<Integer> sorts) {
        int best = NONE;
        int fewest = 99;
        for (int what = 0; what < 4 && !sorts.isEmpty(); what++) {
            int so = 0;
            for (int kind : sorts) {
                so += wouldBe(kind, what) ? 1 : 0;
            }
            int worst = Math.max(so, sorts.size() - so);
            if (worst < fewest) {
                best = what;
                fewest = worst;
            }
        }
        return best;
    }

    private Set<Integer> lacks(int number) {
        Set<Integer> lacked = new HashSet<>();
        Instance one = instances.get(number);
        for (int high : right.get(one.owner())) {
            Result result = find(instances, kinds, high, one.head());
            boolean ok = result.outcome() == 1;
            if (ok) {
                for (int need : needs(result)) {
                    ok &= isGiven(one, (need - 10) / 2, (need - 10) % 2 == 0 ? 'x' : 'y');
                }
            }
            if (!ok) {
                lacked.add(high);
            }
        }
        return lacked;
    }

    private boolean isGiven(Instance one, int number, char variable) {
        for (int i = 0; i < one.wanted().size(); i++) {
            int wanted = one.wanted().get(i);
            if (one.gaps().get(i) == variable && (wanted == number || isAbove(number, wanted))) {
                return true;
            }
        }
        return false;
    }

    int as(int number, int kind) {
        if (noInstance(number)) {
            return UNKNOWN;
        }
        if (kind < 0 || kind > 4) {
            return OUTSIDE;
        }
        int own = kinds.get(number);
        Set<Integer> all = switch (kind) {
            case 0 -> Set.of(0, 1, 2, 3, 4);
            case 3 -> Set.of(3, 4);
            default -> Set.of(kind);
        };
        return all.contains(own) ? number : NONE;
    }

    int change(int number, int kind) {
        if (noInstance(number)) {
            return UNKNOWN;
        }
        return kind < 0 || kind > 4 ? OUTSIDE : kinds.set(number, kind);
    }

    int pair(int one, int other, int what) {
        if (noInstance(one) || noInstance(other) || one == other) {
            return UNKNOWN;
        }
        return switch (what) {
            case 0 -> overlap(one, other) ? 1 : 0;
            case 1 -> clash(one, other) ? 1 : 0;
            case 2 -> special(instances.get(one).head(), instances.get(other).head()) ? 1 : 0;
            default -> OUTSIDE;
        };
    }

    private boolean overlap(int one, int other) {
        Instance a = instances.get(one);
        Instance b = instances.get(other);
        return a.owner() == b.owner() && kinds.get(one) != 2 && kinds.get(other) != 2 && meet(a.head(), b.head());
    }

    private boolean clash(int one, int other) {
        String a = instances.get(one).head();
        String b = instances.get(other).head();
        boolean neither = !special(a, b) && !special(b, a);
        return overlap(one, other) && (neither || kinds.get(one) == 4 || kinds.get(other) == 4);
    }

    int fits(int number, int slot) {
        if (noInstance(number) || noSlot(slot)) {
            return UNKNOWN;
        }
        return match(instances.get(number).head(), slots[slot]) != null ? 1 : 0;
    }

    // ---- goals

    private static Result failed(int outcome) {
        return new Result(outcome, List.of(), 0, 0, Set.of());
    }

    private static Result find(List<Instance> rows, List<Integer> kindRow, int number, String type) {
        if (isVariable(type)) {
            int need = 10 + 2 * number + (type.equals("y") ? 1 : 0);
            return new Result(1, List.of(need), need, 1, Set.of(number + type));
        }
        List<Integer> meant = new ArrayList<>();
        for (int i = 0; i < rows.size(); i++) {
            Instance row = rows.get(i);
            if (row.owner() == number && row.sound() && kindRow.get(i) != 2 && match(row.head(), type) != null) {
                meant.add(i);
            }
        }
        if (meant.isEmpty()) {
            return failed(0);
        }
        int taken = take(rows, kindRow, meant);
        if (taken < 0) {
            return failed(-2);
        }
        Instance row = rows.get(taken);
        Map<String, String> put = match(row.head(), type);
        List<Integer> dictionary = new ArrayList<>(List.of(taken));
        Set<String> goals = new HashSet<>(Set.of(number + type));
        int worth = 7 * (taken + 1);
        int depth = 1;
        for (int i = 0; i < row.wanted().size(); i++) {
            Result part = find(rows, kindRow, row.wanted().get(i), put.get(row.gaps().get(i).toString()));
            if (part.outcome() != 1) {
                return failed(part.outcome());
            }
            dictionary.addAll(part.dictionary());
            goals.addAll(part.goals());
            worth += (i == 0 ? 2 : 3) * part.worth();
            depth = Math.max(depth, 1 + part.depth());
        }
        return new Result(1, dictionary, worth % 1009, depth, goals);
    }

    private static int take(List<Instance> rows, List<Integer> kindRow, List<Integer> meant) {
        if (meant.size() >= 2 && meant.stream().anyMatch(i -> kindRow.get(i) == 4)) {
            return NONE;
        }
        List<Integer> group = meant.stream().filter(i -> kindRow.get(i) >= 3).toList();
        if (group.isEmpty()) {
            group = meant.stream().filter(i -> kindRow.get(i) != 1).toList();
        }
        if (group.isEmpty()) {
            group = meant;
        }
        if (group.size() == 1) {
            return group.get(0);
        }
        for (int one : group) {
            boolean all = true;
            for (int other : group) {
                all &= one == other || special(rows.get(one).head(), rows.get(other).head());
            }
            if (all) {
                return one;
            }
        }
        return NONE;
    }

    private static Set<Integer> needs(Result result) {
        Set<Integer> needs = new HashSet<>();
        for (int one : result.dictionary()) {
            if (one >= 10) {
                needs.add(one);
            }
        }
        return needs;
    }

    private Set<Integer> plain(Set<Integer> needs) {
        Set<Integer> plain = new HashSet<>();
        for (int one : needs) {
            boolean stays = true;
            for (int other : needs) {
                stays &= one % 2 != other % 2 || !isAbove((one - 10) / 2, (other - 10) / 2);
            }
            if (stays) {
                plain.add(one);
            }
        }
        return plain;
    }

    int goal(int number, int slot, int what) {
        if (noClass(number) || noSlot(slot)) {
            return UNKNOWN;
        }
        if (what < 0 || what > 6) {
            return OUTSIDE;
        }
        Result result = find(instances, kinds, number, slots[slot]);
        if (what == 0) {
            return result.outcome();
        }
        if (result.outcome() != 1) {
            return NONE;
        }
        return switch (what) {
            case 1 -> result.dictionary().size();
            case 2 -> result.worth();
            case 3 -> result.goals().size();
            case 4 -> result.depth();
            case 5 -> needs(result).size();
            default -> plain(needs(result)).size();
        };
    }

    int entry(int number, int slot, int place) {
        if (noClass(number) || noSlot(slot)) {
            return UNKNOWN;
        }
        List<Integer> dictionary = find(instances, kinds, number, slots[slot]).dictionary();
        return place < 0 || place >= dictionary.size() ? UNKNOWN : dictionary.get(place);
    }

    int need(int number, int slot, int need, int variable) {
        if (noClass(number) || noSlot(slot)) {
            return UNKNOWN;
        }
        if (noClass(need) || variable < 0 || variable > 1) {
            return OUTSIDE;
        }
        Set<Integer> needs = needs(find(instances, kinds, number, slots[slot]));
        int wanted = 10 + 2 * need + variable;
        return plain(needs).contains(wanted) ? 2 : needs.contains(wanted) ? 1 : 0;
    }

    // ---- what is seen

    int see(int number, int what, boolean so) {
        if (noInstance(number)) {
            return UNKNOWN;
        }
        if (what < 0 || what > 3) {
            return OUTSIDE;
        }
        if (seen.size() == 6) {
            return FULL;
        }
        seen.add(new Saw(number, what, so));
        return seen.size();
    }

    int forget() {
        int was = seen.size();
        seen.clear();
        return was;
    }

    private long seedNow;

    private int draw(int many) {
        seedNow = (1103515245L * seedNow + 12345L) % (1L << 31);
        return (int) (seedNow / 65536 % many);
    }

    private String drawType(int level) {
        if (level == 2) {
            return draw(2) == 0 ? "i" : "b";
        }
        switch (draw(4)) {
            case 0:
                return "i";
            case 1:
                return "b";
            case 2:
                return "l" + drawType(level + 1);
            default:
                String first = drawType(level + 1);
                return "p" + first + drawType(level + 1);
        }
    }

    int drawn(int times, int seed, int what) {
        if (times < 1 || times > 30 || seed < 0 || what < 0 || what > 2) {
            return OUTSIDE;
        }
        if (!hasBook) {
            return STATE;
        }
        seedNow = seed;
        int found = 0;
        int letters = 0;
        for (int i = 0; i < times; i++) {
            int number = draw(right.size());
            String type = drawType(0);
            letters += type.length();
            found += find(instances, kinds, number, type).outcome() == 1 ? 1 : 0;
        }
        return what == 0 ? found : what == 1 ? letters : (int) seedNow;
    }

    // ---- what is told of all

    private int filled() {
        int many = 0;
        for (String slot : slots) {
            many += slot == null ? 0 : 1;
        }
        return many;
    }

    int image() {
        if (!hasBook) {
            return STATE;
        }
        keptKinds = new ArrayList<>(kinds);
        keptSlots = slots.clone();
        keptSeen = new ArrayList<>(seen);
        return filled();
    }

    int restore() {
        if (keptKinds == null) {
            return STATE;
        }
        kinds = new ArrayList<>(keptKinds);
        slots = keptSlots.clone();
        seen = new ArrayList<>(keptSeen);
        return filled();
    }

    int count(int what) {
        int many = 0;
        switch (what) {
            case 0:
                return right.size();
            case 1:
                return instances.size();
            case 2:
                return (int) instances.stream().filter(i -> !i.sound()).count();
            case 3:
            case 4:
                for (int i = 0; i < instances.size(); i++) {
                    for (int j = 0; j < i; j++) {
                        many += pair(i, j, what - 3);
                    }
                }
                return many;
            case 5:
                for (int i = 0; i < instances.size(); i++) {
                    many += lacks(i).size();
                }
                return many;
            case 6:
                return filled();
            case 7:
                Set<String> different = new HashSet<>();
                for (String slot : slots) {
                    if (slot != null) {
                        different.add(slot);
                    }
                }
                return different.size();
            case 8:
                return seen.size();
            case 9:
                return page.length();
            case 10:
                return booksRead;
            default:
                return OUTSIDE;
        }
    }

    long digest() {
        List<Integer> numbers = new ArrayList<>();
        for (int i = 0; i < right.size(); i++) {
            for (int what = 0; what < 3; what++) {
                numbers.add(about(i, what));
            }
        }
        for (int i = 0; i < instances.size(); i++) {
            for (int what = 0; what < 8; what++) {
                numbers.add(instance(i, what));
            }
        }
        for (int slot = 0; slot < 4; slot++) {
            for (int i = 0; i < right.size() && slots[slot] != null; i++) {
                for (int what = 0; what < 7; what++) {
                    numbers.add(goal(i, slot, what));
                }
            }
        }
        for (char c : page.toCharArray()) {
            numbers.add((int) c);
        }
        for (int what = 0; what < 11; what++) {
            numbers.add(count(what));
        }
        long h = 1367;
        for (int number : numbers) {
            h = 31 * h + number;
        }
        return h;
    }
}
