/** Each promise of the document by examples that were worked out by hand from its words. */
public final class PromiseTest {
    private static final int NONE = -1, UNKNOWN = -101, OUTSIDE = -102, STATE = -103, FULL = -104;

    private static int wrong = 0;

    public static void main(String[] args) {
        promise1NewObject();
        promise2Letter();
        promise3Blank();
        promise4Fault();
        promise5Book();
        promise6Type();
        promise7About();
        promise8Instance();
        promise8Sorts();
        promise8Lacks();
        promise9As();
        promise10Change();
        promise11Pair();
        promise12Fits();
        promise13GoalTaken();
        promise13GoalNumbers();
        promise13GoalPlain();
        promise14Entry();
        promise15Need();
        promise16See();
        promise17Forget();
        promise18Drawn();
        promise19Image();
        promise20Restore();
        promise21Count();
        promise22Digest();
        System.out.println(wrong == 0 ? "all promises hold" : wrong + " answers are not as due");
        if (wrong != 0) {
            System.exit(1);
        }
    }

    private static void due(String what, long got, long want) {
        if (got != want) {
            wrong++;
            System.out.println(what + " answered " + got + ", due is " + want);
        }
    }

    private static DictProof page(DictProof d, String text) {
        for (char c : text.toCharArray()) {
            d.letter(c);
        }
        return d;
    }

    private static DictProof with(String book, String... types) {
        DictProof d = page(new DictProof(), book);
        if (d.book() < 0) {
            due("book " + book, STATE, 1);
        }
        for (int i = 0; i < types.length; i++) {
            put(d, i, types[i]);
        }
        return d;
    }

    private static void put(DictProof d, int slot, String type) {
        d.blank();
        due("type " + type, page(d, type).type(slot), type.length());
    }

    private static void fault(String text, int want) {
        due("fault of " + text, page(new DictProof(), text).fault(), want);
    }

    private static void promise1NewObject() {
        DictProof d = new DictProof();
        for (int what = 0; what <= 10; what++) {
            due("new: count " + what, d.count(what), 0);
        }
        due("new: about", d.about(0, 0), UNKNOWN);
        due("new: instance", d.instance(0, 0), UNKNOWN);
        due("new: as", d.as(0, 9), UNKNOWN);
        due("new: change", d.change(0, 9), UNKNOWN);
        due("new: pair", d.pair(0, 1, 0), UNKNOWN);
        due("new: fits", d.fits(0, 0), UNKNOWN);
        due("new: goal", d.goal(0, 0, 0), UNKNOWN);
        due("new: see", d.see(0, 0, true), UNKNOWN);
        due("new: image", d.image(), STATE);
        due("new: restore", d.restore(), STATE);
        due("new: forget", d.forget(), 0);
        due("new: fault", d.fault(), 0);
        due("new: blank", d.blank(), 0);
        long h = 1367;
        for (int i = 0; i < 11; i++) {
            h *= 31;
        }
        due("new: digest", d.digest(), h);
    }

    private static void promise2Letter() {
        DictProof d = new DictProof();
        due("letter 31", d.letter(31), OUTSIDE);
        due("letter 127", d.letter(127), OUTSIDE);
        due("letter -1", d.letter(-1), OUTSIDE);
        due("letter max", d.letter(Integer.MAX_VALUE), OUTSIDE);
        due("letter 32", d.letter(32), 1);
        due("letter 126", d.letter(126), 2);
        for (int i = 3; i <= 84; i++) {
            due("letter", d.letter('l'), i);
        }
        due("letter 85th", d.letter('l'), FULL);
        due("letter 85th outside", d.letter(5), OUTSIDE);
        due("page", d.count(9), 84);
    }

    private static void promise3Blank() {
        DictProof d = page(new DictProof(), "-;n0");
        due("blank", d.blank(), 4);
        due("blank again", d.blank(), 0);
        due("page", d.count(9), 0);
        due("fault", d.fault(), 0);
    }

    private static void promise4Fault() {
        fault("-;n0i", 5);
        fault("-", 1);
        fault("-;", 2);
        fault(";", 0);
        fault("0", 0);
        fault("x", 0);
        fault("--", 1);
        fault("-,", 2);
        fault("-,0", 3);
        fault("-,1", 2);
        fault("-,00;", 3);
        fault("-,01;", 3);
        fault("-,0,01;", 7);
        fault("-,0,10;", 5);
        fault("-,0,0-;", 5);
        fault("-,0,-1;", 5);
        fault("-,0,1,012;", 8);
        fault("-,-,-,12;", 9);
        fault("-,-,-,-,", 7);
        fault("-;;", 2);
        fault("-;x", 2);
        fault("-;n1", 3);
        fault("-,-;n1", 6);
        fault("-;n/", 3);
        fault("-;n0x", 5);
        fault("-;n0i0", 5);
        fault("-;n0pii0", 7);
        fault("-;n0x0", 6);
        fault("-;n0x1", 5);
        fault("-;n0x0y", 6);
        fault("-;n0x0i", 6);
        fault("-;n0x0x0x", 9);
        fault("-;n0x0x0x0", 9);
        fault("-;n0lllli", 9);
        fault("-;n0lllll", 8);
        fault("-;n0ppiii", 9);
        fault("-;n0ppp", 6);
        fault("-;n0pplii", 6);
        fault("-;n0plpi", 6);
        fault("-;n0pllp", 7);
        fault("-;n0lllp", 7);
        fault("-;n0c", 4);
        fault("-;n0ii", 5);
        fault("-;n0i;", 5);
        fault("-;n0i,", 6);
        fault("-;n0i,,", 6);
        fault("-;n0i,d0i,h0i,f0i,s0i,n0i", 25);
        fault("-;n0i,d0i,h0i,f0i,s0i,n0i,", 25);
        fault("-;a0i", 2);
        fault(" -;n0i", 0);
        // What was read before leaves no trace.
        DictProof d = page(new DictProof(), "-,0;n0lx0x");
        due("fault", d.fault(), 10);
        d.blank();
        due("fault behind a longer head", page(d, "-;n0i0x").fault(), 5);
        d.blank();
        due("fault behind more classes", page(d, "-;n1i").fault(), 3);
    }

    private static void promise5Book() {
        DictProof d = new DictProof();
        due("book of nothing", d.book(), STATE);
        page(d, "-;n0");
        due("book not whole", d.book(), STATE);
        due("page stays", d.count(9), 4);
        page(d, "x0");
        due("book with half a condition", d.book(), STATE);
        page(d, "x");
        due("book", d.book(), 1);
        due("page is empty", d.count(9), 0);
        due("read", d.count(10), 1);
        put(d, 2, "i");
        d.see(0, 0, true);
        d.change(0, 3);
        d.image();
        page(d, "-,0;n0i,d1i?");
        due("book with a fault", d.book(), STATE);
        due("kind stays", d.instance(0, 0), 3);
        due("read", d.count(10), 1);
        d.blank();
        due("other book", page(d, "-,0;n0i,d1i").book(), 2);
        due("read", d.count(10), 2);
        due("slots gone", d.count(6), 0);
        due("seen gone", d.count(8), 0);
        due("image gone", d.restore(), STATE);
        due("kind as read", d.instance(0, 0), 0);
        due("kind as read", d.instance(1, 0), 1);
        due("classes", d.count(0), 2);
        due("largest", page(d, "-,0,01,12;npppp").fault(), 11);
        d.blank();
        due("largest", page(d, "-,0,01,12;n0ppxyx0x0y,n1ppxyx0x0y,n2ppxyx0x0y,n3ppxyx0x0y,n0ppxyx0x0y,n1ppxyx0x0y").book(), 6);
    }

    private static void promise6Type() {
        DictProof d = new DictProof();
        page(d, "i");
        due("type, no such slot ahead of no book", d.type(4), UNKNOWN);
        due("type, no such slot", d.type(-1), UNKNOWN);
        due("type, no book", d.type(0), STATE);
        d.blank();
        page(d, "-;n0i").book();
        due("type of nothing", d.type(0), STATE);
        for (String none : new String[] {"ii", "l", "p", "pi", "n", "piii", "xi", "l i", "llllllllllll", "piiiiiiiiiiii"}) {
            due("type " + none, page(d, none).type(0), STATE);
            due("page stays", d.blank(), none.length());
        }
        for (String some : new String[] {"i", "b", "x", "y", "li", "pii", "pxy", "lllllllli", "ppppiiiii"}) {
            put(d, 3, some);
            due("page is empty", d.count(9), 0);
        }
        due("type of 10", page(d, "llllllllli").type(0), FULL);
        due("page stays", d.blank(), 10);
        due("type of 11", page(d, "pppppiiiiii").type(0), FULL);
        due("page stays", d.blank(), 11);
        for (int i = 0; i < 83; i++) {
            d.letter('l');
        }
        due("type of 83", d.type(0), STATE);
        d.letter('i');
        due("type of 84", d.type(0), FULL);
        due("slots", d.count(6), 1);
    }

    private static void promise7About() {
        DictProof d = with("-,0,-,12;n0i,h0x0x,n3i,d3lx");
        int[][] want = {{0, 0, 2}, {1, 1, 0}, {0, 0, 0}, {6, 7, 2}};
        for (int number = 0; number < 4; number++) {
            for (int what = 0; what < 3; what++) {
                due("about " + number + " " + what, d.about(number, what), want[number][what]);
            }
        }
        due("about 3, -1", d.about(3, -1), OUTSIDE);
        due("about 3, 3", d.about(3, 3), OUTSIDE);
        due("about 4, 3", d.about(4, 3), UNKNOWN);
        due("about -1", d.about(-1, 0), UNKNOWN);
        due("about, two steps up", with("-,0,1,2;n0i").about(3, 1), 7);
        due("about, right above alone", with("-,0,1,2;n0i").about(3, 0), 4);
    }

    private static void promise8Instance() {
        DictProof d = with("-,0;n0i,d1x,h0x0x,f1plxy0x1y,s0y");
        int[][] want = {
            {0, 0, 1, 0, 1, 31, 0, 0},
            {1, 1, 1, 0, 1, 31, 0, 1},
            {2, 0, 1, 1, 0, 31, 0, 0},
            {3, 1, 4, 2, 1, 31, 0, 0},
            {4, 0, 1, 0, 1, 31, 0, 0},
        };
        for (int i = 0; i < want.length; i++) {
            for (int what = 0; what < 6; what++) {
                due("instance " + i + " " + what, d.instance(i, what), want[i][what]);
            }
        }
        due("instance 1 7", d.instance(1, 7), want[1][7]);
        due("instance 3 7", d.instance(3, 7), want[3][7]);
        due("instance 5", d.instance(5, 0), UNKNOWN);
        due("instance -1", d.instance(-1, 99), UNKNOWN);
        due("instance 0, 8", d.instance(0, 8), OUTSIDE);
        due("instance 0, -1", d.instance(0, -1), OUTSIDE);
    }

    private static void promise8Sorts() {
        int[] so = {8, 27, 9, 17};
        for (int what = 0; what < 4; what++) {
            DictProof d = with("-;n0i,n0b");
            d.see(1, what, true);
            due("sorts, so " + what, d.instance(1, 5), so[what]);
            due("sorts of another one", d.instance(0, 5), 31);
            d.forget();
            d.see(1, what, false);
            due("sorts, not so " + what, d.instance(1, 5), 31 - so[what]);
        }
        DictProof d = with("-;n0i");
        // of 5: 0 leaves 4 at worst, 1 leaves 4, 2 leaves 3, 3 leaves 3.
        due("ask of all", d.instance(0, 6), 2);
        d.see(0, 2, false);
        // SPARE, HIDDEN, SOLE: 0 leaves 3, 1 leaves 2, 2 leaves 3, 3 leaves 2.
        due("ask of 1, 2, 4", d.instance(0, 6), 1);
        d.see(0, 1, true);
        due("sorts 1, 4", d.instance(0, 5), 18);
        due("ask of 1, 4", d.instance(0, 6), 3);
        d.see(0, 3, false);
        due("sorts 1", d.instance(0, 5), 2);
        due("ask of one", d.instance(0, 6), 0);
        d.see(0, 3, true);
        due("sorts none", d.instance(0, 5), 0);
        due("ask of none", d.instance(0, 6), NONE);
        d.forget();
        d.see(0, 2, true);
        due("sorts 0, 3", d.instance(0, 5), 9);
        due("ask of 0, 3", d.instance(0, 6), 0);
    }

    private static void promise8Lacks() {
        due("no class above", with("-;n0i").instance(0, 7), 0);
        due("found", with("-,0;n0i,n1i").instance(1, 7), 0);
        due("stuck", with("-,0;n0i,n1b").instance(1, 7), 1);
        due("unclear", with("-,0;n0i,n0i,n1i").instance(2, 7), 1);
        due("hidden", with("-,0;h0i,n1i").instance(1, 7), 1);
        due("a need that no condition gives", with("-,0;n0lx0x,n1lx").instance(1, 7), 1);
        due("a need that is a condition", with("-,0;n0lx0x,n1lx0x").instance(1, 7), 0);
        due("a need above a condition", with("-,0;n0lx0x,n1lx1x").instance(1, 7), 0);
        due("a need far above a condition", with("-,0,1;n0lx0x,n1lx0x,n1i,n1lx2x").instance(3, 7), 0);
        due("of the other variable", with("-,0;n0pxy0x,n1pxy1y").instance(1, 7), 1);
        due("below a condition", with("-,0,0;n0lx1x,n2lx0x").instance(1, 7), 1);
        due("a variable alone", with("-,0;n0x,n1x").instance(1, 7), 1);
        due("a variable alone with its condition", with("-,0;n0i,n1y0y").instance(1, 7), 0);
        due("two", with("-,-,01;n0i,n2b").instance(1, 7), 3);
        due("one of two", with("-,-,01;n0b,n2b").instance(1, 7), 2);
        due("only right above", with("-,0,1;n1b,n2b").instance(1, 7), 0);
        due("of a hidden one, too", with("-,0;n0i,h1b").instance(1, 7), 1);
    }

    private static void promise9As() {
        DictProof d = with("-;n0i,d0i,h0i,f0i,s0i");
        int[] such = {1, 1 + 2, 1 + 4, 1 + 8, 1 + 8 + 16};
        for (int i = 0; i < 5; i++) {
            for (int kind = 0; kind < 5; kind++) {
                due("as " + i + " " + kind, d.as(i, kind), (such[i] >> kind & 1) == 1 ? i : NONE);
            }
        }
        due("as 0, 5", d.as(0, 5), OUTSIDE);
        due("as 0, -1", d.as(0, -1), OUTSIDE);
        due("as 5, 5", d.as(5, 5), UNKNOWN);
        due("as -1, 0", d.as(-1, 0), UNKNOWN);
    }

    private static void promise10Change() {
        DictProof d = with("-;n0i,s0b");
        due("change", d.change(0, 4), 0);
        due("change", d.change(0, 2), 4);
        due("change to the same", d.change(0, 2), 2);
        due("kind", d.instance(0, 0), 2);
        due("kind of the other", d.instance(1, 0), 4);
        due("change outside", d.change(0, 5), OUTSIDE);
        due("change outside", d.change(0, -1), OUTSIDE);
        due("change unknown", d.change(2, 5), UNKNOWN);
        due("kind stays", d.instance(0, 0), 2);
    }

    private static void pairs(String one, String other, int overlap, int clash, int special) {
        DictProof d = with("-,-;" + one + "," + other);
        due("overlap " + one + " " + other, d.pair(0, 1, 0), overlap);
        due("overlap " + other + " " + one, d.pair(1, 0, 0), overlap);
        due("clash " + one + " " + other, d.pair(0, 1, 1), clash);
        due("clash " + other + " " + one, d.pair(1, 0, 1), clash);
        due("special " + one + " " + other, d.pair(0, 1, 2), special);
    }

    private static void promise11Pair() {
        pairs("n0i", "n0i", 1, 1, 0);
        pairs("n0i", "n0b", 0, 0, 0);
        pairs("n0i", "n0x", 1, 0, 1);
        pairs("n0x", "n0i", 1, 0, 0);
        pairs("n0x", "n0y", 1, 1, 0);
        pairs("n0pxy", "n0pyx", 1, 1, 0);
        pairs("n0pxi", "n0piy", 1, 1, 0);
        pairs("n0pxi", "n0pby", 1, 1, 0);
        pairs("n0pxx", "n0pxy", 1, 0, 1);
        pairs("n0pxx", "n0pib", 0, 0, 0);
        pairs("n0pxx", "n0pxlx", 0, 0, 0);
        pairs("n0ppxxx", "n0pxpyy", 1, 1, 0);
        pairs("n0ppxxx", "n0pxpxy", 0, 0, 0);
        pairs("n0lx", "n0llx", 1, 0, 0);
        pairs("n0lx", "n0lx0x", 1, 1, 0);
        pairs("n0i", "n1i", 0, 0, 0);
        pairs("n0i", "n1x", 0, 0, 1);
        pairs("h0i", "n0x", 0, 0, 1);
        pairs("s0i", "n0x", 1, 1, 1);
        pairs("n0i", "s0x", 1, 1, 1);
        pairs("s0i", "n0b", 0, 0, 0);
        pairs("s0i", "h0i", 0, 0, 0);
        pairs("f0i", "d0i", 1, 1, 0);
        DictProof d = with("-;n0i,n0x0x");
        due("pair with one not sound", d.pair(0, 1, 0), 1);
        due("pair 0 0", d.pair(0, 0, 0), UNKNOWN);
        due("pair 0 2", d.pair(0, 2, 9), UNKNOWN);
        due("pair -1 1", d.pair(-1, 1, 0), UNKNOWN);
        due("pair 0 1 3", d.pair(0, 1, 3), OUTSIDE);
        due("pair 0 1 -1", d.pair(0, 1, -1), OUTSIDE);
    }

    private static void fitting(String head, String type, int want) {
        DictProof d = with("-;h0" + head, type);
        due(head + " fits " + type, d.fits(0, 0), want);
    }

    private static void promise12Fits() {
        fitting("x", "plib", 1);
        fitting("i", "i", 1);
        fitting("i", "b", 0);
        fitting("i", "x", 0);
        fitting("lx", "ly", 1);
        fitting("lx", "lx", 1);
        fitting("li", "lx", 0);
        fitting("pxx", "pii", 1);
        fitting("pxx", "pib", 0);
        fitting("pxx", "pxy", 0);
        fitting("pxx", "pyy", 1);
        fitting("pxx", "plilb", 0);
        fitting("pxx", "ppiblpib", 0);
        fitting("pxx", "ppibpib", 1);
        fitting("pxy", "pyx", 1);
        fitting("ppxyx", "ppibi", 1);
        fitting("ppxyx", "ppibb", 0);
        fitting("pxlx", "plillli", 0);
        fitting("pxlx", "plilli", 1);
        DictProof d = with("-;n0i", "i");
        due("fits, empty slot", d.fits(0, 1), UNKNOWN);
        due("fits, no slot", d.fits(0, 4), UNKNOWN);
        due("fits, no slot", d.fits(0, -1), UNKNOWN);
        due("fits, no instance", d.fits(1, 0), UNKNOWN);
    }

    private static void outcome(String instances, String type, int want, int taken) {
        DictProof d = with("-,-;" + instances, type);
        String text = instances + " for " + type;
        due(text, d.goal(0, 0, 0), want);
        due(text + " takes", d.entry(0, 0, 0), want == 1 ? taken : UNKNOWN);
        for (int what = 1; what <= 6 && want != 1; what++) {
            due(text + " what " + what, d.goal(0, 0, what), NONE);
        }
    }

    private static void promise13GoalTaken() {
        outcome("n0i", "x", 1, 10);
        outcome("n0i", "i", 1, 0);
        outcome("n0i", "b", 0, 0);
        outcome("n1i", "i", 0, 0);
        outcome("h0i", "i", 0, 0);
        outcome("n0x0x", "i", 0, 0);
        outcome("n0i,n0i", "i", -2, 0);
        outcome("n0x,n0i", "i", 1, 1);
        outcome("n0x,n0lx,n0li", "li", 1, 2);
        outcome("n0x,n0pix,n0pxb", "pib", -2, 0);
        outcome("n0pix,n0pxb,n0pib", "pib", 1, 2);
        outcome("d0i,n0x", "i", 1, 1);
        outcome("d0i,d0x", "i", 1, 0);
        outcome("d0i,d0i", "i", -2, 0);
        outcome("f0x,n0i", "i", 1, 0);
        outcome("f0x,f0i,n0i", "i", 1, 1);
        outcome("f0i,f0i", "i", -2, 0);
        outcome("s0x", "i", 1, 0);
        outcome("s0x,n0i", "i", -2, 0);
        outcome("s0x,d0i", "i", -2, 0);
        outcome("s0x,h0i", "i", 1, 0);
        outcome("s0x,n1i", "i", 1, 0);
        outcome("s0x,n0b", "i", 1, 0);
        outcome("s0i,f0x", "i", -2, 0);
        outcome("s0y,n0x0x", "i", 1, 0);
        outcome("n0lx0x", "li", 0, 0);
        outcome("n0lx1x,n1i,n1x", "li", 1, 0);
        outcome("n0lx1x,n1i,n1i", "li", -2, 0);
        outcome("n0pxy0x1y,n0i,n0i", "pib", -2, 0);
        outcome("n0pxy0x1y,n1b,n1b", "pib", 0, 0);
        outcome("n0pxy1y0x,n1b,n1b", "pib", -2, 0);
    }

    private static void goals(DictProof d, int number, int slot, int... want) {
        for (int what = 0; what < want.length; what++) {
            due("goal " + number + " " + slot + " " + what, d.goal(number, slot, what), want[what]);
        }
    }

    private static void promise13GoalNumbers() {
        DictProof d = with("-,0;n0i,n0lx0x0x,n1pxy0x1y,n1b", "lli", "pxy", "plix", "lllllllli");
        // 1 [1 [0 0] 1 [0 0]]: 7*1 = 7; 14 + 14 + 21 = 49; 14 + 98 + 147 = 259.
        goals(d, 0, 0, 1, 7, 259, 3, 3, 0, 0);
        // 2 [10 13]: 21 + 20 + 39 = 80.
        goals(d, 1, 1, 1, 3, 80, 3, 2, 2, 2);
        // 2 [1 [0 0] 12]: 21 + 98 + 36 = 155.
        goals(d, 1, 2, 1, 5, 155, 4, 3, 1, 1);
        int worth = 7;
        for (int i = 0; i < 8; i++) {
            worth = (14 + 5 * worth) % 1009;
        }
        goals(d, 0, 3, 1, 511, worth, 9, 9, 0, 0);
        goals(d, 1, 0, 0, -1, -1, -1, -1, -1, -1);
        due("goal outside", d.goal(0, 0, 7), OUTSIDE);
        due("goal outside", d.goal(0, 0, -1), OUTSIDE);
        due("goal unknown class", d.goal(2, 0, 7), UNKNOWN);
        due("goal unknown class", d.goal(-1, 0, 0), UNKNOWN);
        due("goal unknown slot", d.goal(0, 4, 0), UNKNOWN);
        due("goal empty slot", with("-;n0i").goal(0, 0, 7), UNKNOWN);
        DictProof need = with("-,-,-,-;n0i", "x", "y");
        goals(need, 0, 0, 1, 1, 10, 1, 1, 1, 1);
        goals(need, 3, 1, 1, 1, 17, 1, 1, 1, 1);
    }

    private static void promise13GoalPlain() {
        DictProof d = with("-,0,1,-;n0pxy1x0y,n1pxy2x0x,n2lx0x3x,n3pxy0x2x", "pxx", "pxy", "lx");
        // 0: (1, x) and (0, x), which is above 1.
        due("needs", d.goal(0, 0, 5), 2);
        due("plain", d.goal(0, 0, 6), 1);
        // 0: (1, x) and (0, y): another variable.
        due("needs", d.goal(0, 1, 5), 2);
        due("plain", d.goal(0, 1, 6), 2);
        // 1: (2, x) and (0, x), two steps up.
        due("needs", d.goal(1, 1, 5), 2);
        due("plain", d.goal(1, 1, 6), 1);
        // 2: (0, x) and (3, x), neither above the other one.
        due("needs", d.goal(2, 2, 5), 2);
        due("plain", d.goal(2, 2, 6), 2);
    }

    private static void promise14Entry() {
        DictProof d = with("-,0;n0i,n0lx0x0x,n1pxy0x1y,n1b", "plxly", "plix", "b");
        int[] want = {2, 1, 0, 0, 12};
        for (int i = 0; i < want.length; i++) {
            due("entry " + i, d.entry(1, 1, i), want[i]);
        }
        due("entry behind the last", d.entry(1, 1, 5), UNKNOWN);
        due("entry -1", d.entry(1, 1, -1), UNKNOWN);
        due("entry max", d.entry(1, 1, Integer.MAX_VALUE), UNKNOWN);
        due("entry not found", d.entry(1, 0, 0), UNKNOWN);
        due("entry", d.entry(1, 2, 0), 3);
        due("entry stuck", d.entry(0, 2, 0), UNKNOWN);
        due("entry no class", d.entry(2, 1, 0), UNKNOWN);
        due("entry empty slot", d.entry(1, 3, 0), UNKNOWN);
        due("entry no slot", d.entry(1, -1, 0), UNKNOWN);
        DictProof deep = with("-,-;n0i,n0lx1x0x,n1i,n1lx0x0x", "lli");
        int[] row = {1, 3, 0, 0, 1, 2, 0};
        for (int i = 0; i < row.length; i++) {
            due("deep entry " + i, deep.entry(0, 0, i), row[i]);
        }
        due("deep entry behind the last", deep.entry(0, 0, 7), UNKNOWN);
    }

    private static void promise15Need() {
        DictProof d = with("-,0,1;n0pxy2x0x,n1i", "pxy", "i");
        due("plain need", d.need(0, 0, 2, 0), 2);
        due("other need", d.need(0, 0, 0, 0), 1);
        due("no need", d.need(0, 0, 1, 0), 0);
        due("no need", d.need(0, 0, 2, 1), 0);
        due("not found", d.need(0, 1, 0, 0), 0);
        due("no needs", d.need(1, 1, 1, 0), 0);
        due("need outside", d.need(0, 0, 3, 0), OUTSIDE);
        due("need outside", d.need(0, 0, -1, 0), OUTSIDE);
        due("variable outside", d.need(0, 0, 0, 2), OUTSIDE);
        due("variable outside", d.need(0, 0, 0, -1), OUTSIDE);
        due("need unknown", d.need(3, 0, 9, 9), UNKNOWN);
        due("need unknown", d.need(0, 2, 9, 9), UNKNOWN);
        due("need itself", with("-;n0i", "y").need(0, 0, 0, 1), 2);
    }

    private static void promise16See() {
        DictProof d = with("-;n0i,n0b");
        due("see unknown", d.see(2, 4, true), UNKNOWN);
        due("see unknown", d.see(-1, 0, true), UNKNOWN);
        due("see outside", d.see(0, 4, true), OUTSIDE);
        due("see outside", d.see(0, -1, true), OUTSIDE);
        for (int i = 1; i <= 6; i++) {
            due("see", d.see(i % 2, 1, true), i);
        }
        due("see full", d.see(0, 2, false), FULL);
        due("see full, outside first", d.see(0, 9, false), OUTSIDE);
        due("sorts stay", d.instance(0, 5), 27);
        due("seen", d.count(8), 6);
        due("change does not touch it", d.change(0, 2), 0);
        due("sorts stay", d.instance(0, 5), 27);
    }

    private static void promise17Forget() {
        DictProof d = with("-;n0i");
        d.see(0, 1, false);
        d.see(0, 0, false);
        due("sorts", d.instance(0, 5), 4);
        due("forget", d.forget(), 2);
        due("sorts of all", d.instance(0, 5), 31);
        due("forget again", d.forget(), 0);
        due("see again", d.see(0, 0, true), 1);
        due("sorts", d.instance(0, 5), 8);
    }

    private static void promise18Drawn() {
        DictProof d = new DictProof();
        due("drawn outside ahead of no book", d.drawn(0, 1, 0), OUTSIDE);
        due("drawn, no book", d.drawn(1, 1, 0), STATE);
        page(d, "-;n0x").book();
        due("drawn times", d.drawn(31, 1, 0), OUTSIDE);
        due("drawn times", d.drawn(-1, 1, 0), OUTSIDE);
        due("drawn seed", d.drawn(1, -1, 0), OUTSIDE);
        due("drawn what", d.drawn(1, 1, 3), OUTSIDE);
        due("drawn what", d.drawn(1, 1, -1), OUTSIDE);
        due("drawn all are found", d.drawn(30, 0, 0), 30);
        // Seed 0: 12345 (class 0), 1406932606 (21468, rest by 4 is 0: "i").
        due("drawn letters", d.drawn(1, 0, 1), 1);
        due("drawn seed then", d.drawn(1, 0, 2), 1406932606);
        due("drawn again", d.drawn(1, 0, 2), 1406932606);
        // Then 654583775 (class), 1449466924 (22117, rest 1: "b").
        due("drawn two letters", d.drawn(2, 0, 1), 2);
        due("drawn seed then", d.drawn(2, 0, 2), 1449466924);
        due("drawn largest seed", d.drawn(1, Integer.MAX_VALUE, 2), 288979989);
        due("drawn, hidden", hiddenDrawn(), 0);
    }

    private static int hiddenDrawn() {
        return with("-;h0x").drawn(30, 5, 0);
    }

    private static void promise19Image() {
        DictProof d = with("-;n0i", "i", "i");
        due("image", d.image(), 2);
        put(d, 3, "x");
        due("image again", d.image(), 3);
        put(d, 2, "b");
        due("restore the latest", d.restore(), 3);
        due("slot 2 is empty", d.fits(0, 2), UNKNOWN);
        due("image of none", with("-;n0i").image(), 0);
    }

    private static void promise20Restore() {
        DictProof d = with("-;n0i,n0b", "i");
        due("restore, none kept", d.restore(), STATE);
        d.see(0, 0, true);
        d.image();
        d.change(1, 4);
        d.see(1, 3, true);
        put(d, 0, "lb");
        put(d, 1, "b");
        page(d, "zz");
        due("restore", d.restore(), 1);
        due("page stays", d.count(9), 2);
        due("kind", d.instance(1, 0), 0);
        due("sorts", d.instance(1, 5), 31);
        due("sorts", d.instance(0, 5), 8);
        due("seen", d.count(8), 1);
        due("slot 0", d.fits(0, 0), 1);
        due("slot 1", d.fits(0, 1), UNKNOWN);
        d.forget();
        d.change(0, 2);
        due("restore again", d.restore(), 1);
        due("kind", d.instance(0, 0), 0);
        due("seen", d.count(8), 1);
        d.blank();
        due("the same book again", page(d, "-;n0i,n0b").book(), 2);
        due("restore behind another book", d.restore(), STATE);
        due("image", d.image(), 0);
        due("restore", d.restore(), 0);
    }

    private static void promise21Count() {
        DictProof d = with("-,0;n0x0x,n0i,n0x,s1i,n1x", "i", "li", "i");
        d.see(0, 0, true);
        page(d, "abc");
        // Overlap: 0-1, 0-2, 1-2, 3-4. Clash: 0-2, 3-4 (SOLE). 4 lacks 0, for it has no condition.
        int[] want = {2, 5, 1, 4, 2, 1, 3, 2, 1, 3, 1};
        for (int what = 0; what < want.length; what++) {
            due("count " + what, d.count(what), want[what]);
        }
        due("count 11", d.count(11), OUTSIDE);
        due("count -1", d.count(-1), OUTSIDE);
        DictProof two = with("-,-,01;n2i,n2lx", "x", "y");
        due("lacked together", two.count(5), 4);
        due("different types", two.count(7), 2);
    }

    private static void promise22Digest() {
        DictProof d = with("-;n0i", "i");
        page(d, "~!");
        long[] numbers = {
            0, 0, 1,
            0, 0, 1, 0, 1, 31, 2, 0,
            1, 1, 7, 1, 1, 0, 0,
            126, 33,
            1, 1, 0, 0, 0, 0, 1, 1, 0, 2, 1,
        };
        long h = 1367;
        for (long number : numbers) {
            h = 31 * h + number;
        }
        due("digest", d.digest(), h);
        due("digest again", d.digest(), h);
    }
}
