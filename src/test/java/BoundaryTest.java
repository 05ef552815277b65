import java.io.IOException;
import java.math.BigInteger;

/**
 * The boundary cases that the promises name: too small, too large, empty, full, wrapping, refused.
 * Each test names its promise and the sentence; together they name every sentence of the promises.
 */
public final class BoundaryTest {
    private static final int NONE = Sentences.NONE, UNKNOWN = Sentences.UNKNOWN, OUTSIDE = Sentences.OUTSIDE;
    private static final int STATE = Sentences.STATE, FULL = Sentences.FULL;
    private static final int MIN = Sentences.MIN, MAX = Sentences.MAX;
    private static final String LARGEST = Sentences.LARGEST;
    /** Goals of class 0 and "pllxlly" need every class of both variables: eight needs, two of them plain. */
    private static final String ALL_NEEDS = "-,0,1,2;n0pxy1x1y,n1lx2x3x,n2lx0x1x,n3lx2x3x";
    private static final String ALL_NEEDS_TYPE = "pllxlly";

    private static final Sentences S = new Sentences();

    public static void main(String[] args) throws IOException {
        promises1To6();
        promises7To12();
        promises13To15();
        promises16To20();
        promises21And22();
        S.lookUpPromises(args.length > 0 ? args[0] : ".");
        S.end();
    }

    private static void promises1To6() {
        S.test(1, "No BOOK.", BoundaryTest::newObjectHasNoBook);
        S.test(2, "A letter comes behind THE PAGE, told by its code: how many THE PAGE has.", BoundaryTest::letterComesBehind);
        S.test(2, "OUTSIDE: code (32 to 126);", BoundaryTest::letterOutside);
        S.test(2, "FULL: above 84.", BoundaryTest::letterFull);
        S.test(3, "THE PAGE is empty: how many letters it had.", BoundaryTest::blankOfNoneAndAll);
        S.test(4, "The place (from 0) of the first letter of THE PAGE that no BOOK has there, behind those ahead of it;",
            BoundaryTest::faultPlace);
        S.test(4, "how many letters it has, if there is none.", BoundaryTest::faultNone);
        S.test(4, "(A HEAD need not be seen to come to an end: the letter by which its SIZE and what it lacks are more than 5 is wrong.)",
            BoundaryTest::faultHeadTooLarge);
        S.test(5, "THE PAGE is read as THE BOOK (another one is gone, with all that was): how many INSTANCES;",
            BoundaryTest::bookAnotherIsGone);
        S.test(5, "THE PAGE is empty then.", BoundaryTest::bookEmptiesPage);
        S.test(5, "STATE: it is none.", BoundaryTest::bookNone);
        S.test(6, "THE PAGE is read as a TYPE into a SLOT: its SIZE; THE PAGE is empty then.", BoundaryTest::typeSizes);
        S.test(6, "UNKNOWN: slot (0 to 3);", BoundaryTest::typeUnknown);
        S.test(6, "STATE: no BOOK, or it is none;", BoundaryTest::typeState);
        S.test(6, "FULL: its SIZE is above 9.", BoundaryTest::typeFull);
    }

    private static void promises7To12() {
        S.test(7, "Of a CLASS: what = 0 those RIGHT ABOVE it, as bits, 1 those ABOVE it, as bits, 2 how many INSTANCES there are of it.",
            BoundaryTest::aboutLeastAndMost);
        S.test(7, "UNKNOWN;", BoundaryTest::aboutUnknown);
        S.test(7, "OUTSIDE.", BoundaryTest::aboutOutside);
        S.test(8, "Of an INSTANCE: what = 0 KIND, 1 CLASS, 2 the SIZE of its HEAD, 3 how many CONDITIONS, 4 whether it is SOUND (1, 0),",
            BoundaryTest::instanceLeastAndMost);
        S.test(8, "5 SORTS, as bits,", BoundaryTest::instanceSortsNoneAndAll);
        S.test(8, "6 ASK (NONE),", BoundaryTest::instanceAskNone);
        S.test(8, "7 which CLASSES it LACKS, as bits.", BoundaryTest::instanceLacksNoneAndTwo);
        S.test(8, "UNKNOWN;", BoundaryTest::instanceUnknown);
        S.test(8, "OUTSIDE.", BoundaryTest::instanceOutside);
        S.test(9, "An INSTANCE taken as a KIND: its number;", BoundaryTest::asItsNumber);
        S.test(9, "NONE: it is none such (the cast fails).", BoundaryTest::asNone);
        S.test(9, "UNKNOWN;", BoundaryTest::asUnknown);
        S.test(9, "OUTSIDE.", BoundaryTest::asOutside);
        S.test(10, "An INSTANCE is of another KIND: of which it was.", BoundaryTest::changeTellsWhatWas);
        S.test(10, "UNKNOWN;", BoundaryTest::changeUnknown);
        S.test(10, "OUTSIDE: kind (0 to 4).", BoundaryTest::changeOutside);
        S.test(11, "Of the HEADS of two INSTANCES: what = 0 whether they OVERLAP (1, 0), 1 whether they CLASH (1, 0), "
            + "2 whether the first one is MORE SPECIAL (1, 0; of whatever CLASS, KIND).", BoundaryTest::pairOfWhateverClassAndKind);
        S.test(11, "UNKNOWN: one, other, or they are the same;", BoundaryTest::pairUnknown);
        S.test(11, "OUTSIDE.", BoundaryTest::pairOutside);
        S.test(12, "Whether the HEAD of an INSTANCE FITS the TYPE in a SLOT (1, 0; of whatever KIND).", BoundaryTest::fitsOfWhateverKind);
        S.test(12, "UNKNOWN: instance, slot (an empty one, too).", BoundaryTest::fitsUnknown);
    }

    private static void promises13To15() {
        S.test(13, "Of the GOAL of a CLASS and the TYPE in a SLOT: what = 0 whether it is FOUND (1), STUCK (0) or UNCLEAR (-2),",
            BoundaryTest::goalOutcomes);
        S.test(13, "1 how many numbers its DICTIONARY has,", BoundaryTest::goalLeastAndMostNumbers);
        S.test(13, "2 its WORTH,", BoundaryTest::goalWorthWraps);
        S.test(13, "3 how many different GOALS there are in it, with itself (NEEDS, too),", BoundaryTest::goalDifferentGoals);
        S.test(13, "4 how deep it is (a GOAL without CONDITIONS is 1, others 1 more than the deepest of their CONDITIONS),",
            BoundaryTest::goalDepth);
        S.test(13, "5 how many NEEDS,", BoundaryTest::goalNeedsNoneAndAll);
        S.test(13, "6 how many PLAIN NEEDS", BoundaryTest::goalPlainNeedsNoneAndAll);
        S.test(13, "(1 to 6: NONE, if it is not FOUND).", BoundaryTest::goalNoneIfNotFound);
        S.test(13, "UNKNOWN: number, slot (an empty one, too);", BoundaryTest::goalUnknown);
        S.test(13, "OUTSIDE.", BoundaryTest::goalOutside);
        S.test(14, "The so-manieth number (from 0) of the DICTIONARY.", BoundaryTest::entryFirstAndLast);
        S.test(14, "UNKNOWN: number, slot (an empty one, too), or there are not so many (also: it is not FOUND).",
            BoundaryTest::entryUnknown);
        S.test(15, "Whether a CLASS and a VARIABLE are one of the NEEDS of a GOAL: 2: a PLAIN one, 1: another one, "
            + "0: none (also: it is not FOUND).", BoundaryTest::needOfEach);
        S.test(15, "UNKNOWN: number, slot (an empty one, too);", BoundaryTest::needUnknown);
        S.test(15, "OUTSIDE: need (a CLASS that there is), variable (0, 1).", BoundaryTest::needOutside);
    }

    private static void promises16To20() {
        S.test(16, "It is SEEN: how much is.", BoundaryTest::seeHowMuch);
        S.test(16, "UNKNOWN: instance;", BoundaryTest::seeUnknown);
        S.test(16, "OUTSIDE: what (0 to 3);", BoundaryTest::seeOutside);
        S.test(16, "FULL.", BoundaryTest::seeFull);
        S.test(17, "Nothing is SEEN any more: how much was.", BoundaryTest::forgetNoneAndAll);
        S.test(18, "DRAWN: what = 0 how many, 1 how many letters, 2 the SEED then.", BoundaryTest::drawnLeastAndMost);
        S.test(18, "OUTSIDE: times (1 to 30), seed (0 at least), what;", BoundaryTest::drawnOutside);
        S.test(18, "STATE: no BOOK.", BoundaryTest::drawnState);
        S.test(19, "An IMAGE is kept (one; the latest): how many SLOTS are not empty.", BoundaryTest::imageTheLatest);
        S.test(19, "STATE: no BOOK.", BoundaryTest::imageState);
        S.test(20, "It goes on from the IMAGE: how many SLOTS are not empty.", BoundaryTest::restoreGoesOn);
        S.test(20, "STATE: none was kept, or there is another BOOK since.", BoundaryTest::restoreState);
    }

    private static void promises21And22() {
        S.test(21, "How many: 0 CLASSES,", () -> counted(0, 0, "-;n0i", 1, "-,-,-,-;n0i", 4));
        S.test(21, "1 INSTANCES,", () -> counted(1, 0, "-;n0i", 1, "-;n0i,n0i,n0i,n0i,n0i,n0i", 6));
        S.test(21, "2 that are not SOUND,", () -> counted(2, 0, "-;n0x", 0, "-;n0x0x,d0y0y,h0x0x,f0x0x0x,s0x0x,n0x0x", 6));
        S.test(21, "3 pairs of INSTANCES that OVERLAP,",
            () -> counted(3, 0, "-;n0i,n0b", 0, "-;n0x,n0y,n0i,d0i,f0i,s0i", 15));
        S.test(21, "4 that CLASH,", () -> counted(4, 0, "-;n0i,n0x", 0, "-;n0i,n0i,n0i,n0i,n0i,n0i", 15));
        S.test(21, "5 CLASSES that INSTANCES LACK, all together,",
            () -> counted(5, 0, "-,0;n0i,n1i", 0, "-,-,01;n2i,n2b,n2x,h2lx,s2y,d2pxy", 12));
        S.test(21, "6 SLOTS that are not empty,", BoundaryTest::countSlots);
        S.test(21, "7 different TYPES in these,", BoundaryTest::countTypes);
        S.test(21, "8 what is SEEN,", BoundaryTest::countSeen);
        S.test(21, "9 letters of THE PAGE,", BoundaryTest::countLetters);
        S.test(21, "10 how often a BOOK was read.", BoundaryTest::countBooks);
        S.test(21, "OUTSIDE.", BoundaryTest::countOutside);
        S.test(22, "h is 1367, then for each of these numbers, in order, 31 times h, and it (as longs, wrapping):",
            BoundaryTest::digestWraps);
        S.test(22, "of each CLASS what about() tells for 0 to 2;", BoundaryTest::digestOfClasses);
        S.test(22, "of each INSTANCE what instance() tells for 0 to 7;", BoundaryTest::digestOfInstances);
        S.test(22, "of each SLOT that is not empty, and each CLASS, what goal() tells for 0 to 6;", BoundaryTest::digestOfSlots);
        S.test(22, "letters of THE PAGE;", BoundaryTest::digestOfPage);
        S.test(22, "what count() tells for 0 to 10.", BoundaryTest::digestOfCounts);
    }

    // ---- promise 1

    private static void newObjectHasNoBook() {
        DictProof d = new DictProof();
        for (int what = 0; what <= 10; what++) {
            S.due("count(" + what + ")", d.count(what), 0);
        }
        S.refused(d, "about(0, 0)", UNKNOWN, () -> d.about(0, 0));
        S.refused(d, "instance(0, 0)", UNKNOWN, () -> d.instance(0, 0));
        S.refused(d, "as(0, 0)", UNKNOWN, () -> d.as(0, 0));
        S.refused(d, "change(0, 0)", UNKNOWN, () -> d.change(0, 0));
        S.refused(d, "pair(0, 1, 0)", UNKNOWN, () -> d.pair(0, 1, 0));
        S.refused(d, "fits(0, 0)", UNKNOWN, () -> d.fits(0, 0));
        S.refused(d, "goal(0, 0, 0)", UNKNOWN, () -> d.goal(0, 0, 0));
        S.refused(d, "entry(0, 0, 0)", UNKNOWN, () -> d.entry(0, 0, 0));
        S.refused(d, "need(0, 0, 0, 0)", UNKNOWN, () -> d.need(0, 0, 0, 0));
        S.refused(d, "see(0, 0, true)", UNKNOWN, () -> d.see(0, 0, true));
        S.refused(d, "book()", STATE, d::book);
        S.refused(d, "type(0)", STATE, () -> d.type(0));
        S.refused(d, "drawn(1, 0, 0)", STATE, () -> d.drawn(1, 0, 0));
        S.refused(d, "image()", STATE, d::image);
        S.refused(d, "restore()", STATE, d::restore);
        S.due("forget()", d.forget(), 0);
        S.due("blank()", d.blank(), 0);
        S.due("fault()", d.fault(), 0);
    }

    // ---- promise 2

    private static void letterComesBehind() {
        DictProof d = new DictProof();
        for (int many = 1; many <= 84; many++) {
            S.due("letter " + many, d.letter(32 + many), many);
        }
        S.due("letters", d.count(9), 84);
        DictProof one = Sentences.page(new DictProof(), "~ ");
        DictProof other = Sentences.page(new DictProof(), " ~");
        S.due("digest() of \"~ \"", one.digest(), folded(one, "~ "));
        S.due("digest() of \" ~\"", other.digest(), folded(other, " ~"));
        S.due("the order is told", one.digest() == other.digest() ? 1 : 0, 0);
    }

    private static void letterOutside() {
        DictProof d = Sentences.page(new DictProof(), "-");
        for (int code : new int[] {31, 127, 0, -1, 128, 255, 256 + 'i', 65536 + 'i', -65536 + 'i', MIN, MAX, MIN + 'i'}) {
            S.refused(d, "letter(" + code + ")", OUTSIDE, () -> d.letter(code));
        }
        S.due("letter(32)", d.letter(32), 2);
        S.due("letter(126)", d.letter(126), 3);
        S.due("digest()", d.digest(), folded(d, "- ~"));
    }

    private static void letterFull() {
        DictProof d = Sentences.page(new DictProof(), "-".repeat(83));
        S.due("letter 84", d.letter('-'), 84);
        S.refused(d, "letter 85", FULL, () -> d.letter('-'));
        S.refused(d, "letter 85 again", FULL, () -> d.letter('i'));
        S.refused(d, "letter 85, and outside", OUTSIDE, () -> d.letter(31));
        S.due("digest()", d.digest(), folded(d, "-".repeat(84)));
        S.due("blank()", d.blank(), 84);
        S.due("letter behind blank()", d.letter('-'), 1);
    }

    // ---- promise 3

    private static void blankOfNoneAndAll() {
        DictProof d = S.with("-;n0i", "i");
        S.due("blank() of none", d.blank(), 0);
        Sentences.page(d, "z");
        S.due("blank() of one", d.blank(), 1);
        S.due("letters", d.count(9), 0);
        S.due("blank() again", d.blank(), 0);
        Sentences.page(d, "z".repeat(84));
        S.due("blank() of all", d.blank(), 84);
        S.due("letters", d.count(9), 0);
        S.due("the book stays", d.count(1), 1);
        S.due("the slot stays", d.fits(0, 0), 1);
        S.due("letter behind it", d.letter('b'), 1);
        S.due("nothing is left of it", d.type(0), 1);
    }

    // ---- promise 4

    private static void fault(String text, int want) {
        DictProof d = Sentences.page(new DictProof(), text);
        S.due("fault() of " + text, d.fault(), want);
        S.due("fault() of " + text + " again", d.fault(), want);
        S.due("letters of " + text, d.count(9), Math.min(84, text.length()));
    }

    private static void faultPlace() {
        fault("z", 0);
        fault(" ", 0);
        fault("z".repeat(84), 0);
        fault("-z", 1);
        fault("-zz;", 1);
        fault(LARGEST + "z", 81);
        fault(LARGEST + ",", 81);
        fault(LARGEST + "0", 81);
        fault(LARGEST + "n0i", 81);
        fault("-" + "-".repeat(83), 1);
        fault("-;n0i" + "i".repeat(79), 5);
        // What another page had is not ahead of these.
        DictProof d = Sentences.page(new DictProof(), LARGEST);
        S.due("fault()", d.fault(), 81);
        for (String head : new String[] {"i", "li", "pib", "plib"}) {
            d.blank();
            S.due("fault() with head " + head, Sentences.page(d, "-;n0" + head + "0x").fault(), 4 + head.length());
        }
        d.blank();
        S.due("fault() with fewer classes", Sentences.page(d, "-,0;n2x").fault(), 5);
    }

    private static void faultNone() {
        DictProof d = new DictProof();
        S.due("fault() of nothing", d.fault(), 0);
        for (int many = 1; many <= LARGEST.length(); many++) {
            d.letter(LARGEST.charAt(many - 1));
            S.due("fault() of " + many + " letters of the largest book", d.fault(), many);
        }
        S.due("the largest book", d.book(), 6);
        S.due("fault() of nothing", d.fault(), 0);
        fault("-;n0i", 5);
    }

    private static void faultHeadTooLarge() {
        // Ahead of the HEAD there are four letters.
        fault("-;n0llll", 8);
        fault("-;n0lllli", 9);
        fault("-;n0lllll", 8);
        fault("-;n0llllp", 8);
        fault("-;n0llp", 7);
        fault("-;n0llpii", 9);
        fault("-;n0llpl", 7);
        fault("-;n0lllp", 7);
        fault("-;n0pp", 6);
        fault("-;n0ppiii", 9);
        fault("-;n0ppp", 6);
        fault("-;n0ppl", 6);
        fault("-;n0ppil", 7);
        fault("-;n0ppiil", 8);
        fault("-;n0pip", 7);
        fault("-;n0pipii", 9);
        fault("-;n0pipp", 7);
        fault("-;n0plp", 6);
        fault("-;n0plli", 8);
        fault("-;n0pllii", 9);
        fault("-;n0plll", 7);
        fault("-;n0plil", 8);
        fault("-;n0plili", 9);
        fault("-;n0plilp", 8);
        fault("-;n0pilli", 9);
        fault("-;n0pilll", 8);
    }

    // ---- promise 5

    private static void bookAnotherIsGone() {
        DictProof d = S.with(LARGEST, "i", "li", "lli", "x");
        S.due("instances", d.count(1), 6);
        d.change(0, 4);
        d.see(0, 0, true);
        d.see(5, 1, true);
        S.due("image()", d.image(), 4);
        S.due("book() of one instance", Sentences.page(d, "-;d0b").book(), 1);
        S.due("digest()", d.digest(), folded(d, ""));
        S.due("classes", d.count(0), 1);
        S.due("instances", d.count(1), 1);
        S.due("kind", d.instance(0, 0), 1);
        S.due("sorts", d.instance(0, 5), 31);
        S.due("slots", d.count(6), 0);
        S.due("seen", d.count(8), 0);
        S.due("read", d.count(10), 2);
        S.refused(d, "about(1, 0)", UNKNOWN, () -> d.about(1, 0));
        S.refused(d, "instance(1, 0)", UNKNOWN, () -> d.instance(1, 0));
        S.refused(d, "fits(0, 3)", UNKNOWN, () -> d.fits(0, 3));
        S.refused(d, "restore()", STATE, d::restore);
        S.due("book() of six again", Sentences.page(d, LARGEST).book(), 6);
        S.due("kind", d.instance(0, 0), 0);
        S.due("kind", d.instance(4, 0), 4);
        S.due("class", d.instance(3, 1), 3);
        S.due("slots", d.count(6), 0);
        String[] books = {"-,0,01,12;n0lx0x,n0i,n0x,n1lx0x,n2lx1x,n3lx2x", "-,-,-,-;n3x,n3y0y,n3i,n0i,n0i,n0b",
            "-,0,-,-;n0lx0x,n0b,n0li,n1lx,n2i,n3b", "-,-,0,1;n2pxx0x,n2pxy,n2b,n3b,n3lx,n0x0x", "-,-;n1i"};
        DictProof many = new DictProof();
        for (int i = 0; i < 6; i++) {
            String book = books[i * 3 % books.length];
            S.due("book() of " + book, Sentences.page(many, book).book(), S.with(book).count(1));
            sameAsNew(many, book);
        }
    }

    /** Whether an object tells of its book what a new one tells of the same. */
    private static void sameAsNew(DictProof d, String book) {
        DictProof fresh = S.with(book);
        for (int what = 0; what <= 5; what++) {
            S.due("count(" + what + ") of " + book, d.count(what), fresh.count(what));
        }
        for (int number = 0; number <= 3; number++) {
            S.due("about(" + number + ", 0) of " + book, d.about(number, 0), fresh.about(number, 0));
            S.due("about(" + number + ", 1) of " + book, d.about(number, 1), fresh.about(number, 1));
            S.due("about(" + number + ", 2) of " + book, d.about(number, 2), fresh.about(number, 2));
        }
        for (int i = 0; i <= 5; i++) {
            S.due("instance(" + i + ", 4) of " + book, d.instance(i, 4), fresh.instance(i, 4));
            S.due("instance(" + i + ", 7) of " + book, d.instance(i, 7), fresh.instance(i, 7));
            int next = (i + 1) % 6;
            S.due("pair(" + i + ", " + next + ", 2) of " + book, d.pair(i, next, 2), fresh.pair(i, next, 2));
        }
    }

    private static void bookEmptiesPage() {
        DictProof d = Sentences.page(new DictProof(), LARGEST);
        S.due("book()", d.book(), 6);
        S.due("letters", d.count(9), 0);
        S.due("blank()", d.blank(), 0);
        S.refused(d, "book() again", STATE, d::book);
        S.due("letter behind it", d.letter('i'), 1);
    }

    private static void bookNone() {
        for (int many = 0; many <= LARGEST.length(); many++) {
            // Each instance begins behind 10 letters and 12 for each one ahead of it; its head is
            // whole behind 7 letters, and its conditions behind 9 and 11.
            int behind = many < 10 ? 0 : (many - 10) % 12;
            boolean whole = behind == 7 || behind == 9 || behind == 11;
            DictProof d = Sentences.page(new DictProof(), LARGEST.substring(0, many));
            if (whole) {
                S.due("book() of " + many + " letters", d.book(), (many - 10) / 12 + 1);
            } else {
                S.refused(d, "book() of " + many + " letters", STATE, d::book);
            }
        }
        DictProof d = S.with("-,0;n0i,f1x", "li");
        d.see(1, 1, true);
        d.image();
        for (String none : new String[] {"z", "-;n0iz", " -;n0i", "-;n0i ", "-;n0i;", "-;n0i,", LARGEST + ",", "z".repeat(84)}) {
            Sentences.page(d, none);
            S.refused(d, "book() of " + none, STATE, d::book);
            S.due("letters of " + none, d.blank(), none.length());
        }
        S.due("the image stays", d.restore(), 1);
        S.due("read", d.count(10), 1);
    }

    // ---- promise 6

    private static void typeSizes() {
        DictProof d = S.with("-;n0i");
        for (int slot = 0; slot <= 3; slot++) {
            S.due("type(" + slot + ") of i", Sentences.page(d, "i").type(slot), 1);
            S.due("letters", d.count(9), 0);
            S.due("slots", d.count(6), slot + 1);
        }
        for (int size = 1; size <= 9; size++) {
            S.due("type(3) of size " + size, Sentences.page(d, "l".repeat(size - 1) + "y").type(3), size);
            S.due("letters", d.count(9), 0);
        }
        S.due("type(0) of ppppxyibx", Sentences.page(d, "ppppxyibx").type(0), 9);
        S.due("type(0) of pxpxpxpxy", Sentences.page(d, "pxpxpxpxy").type(0), 9);
        S.due("fits(0, 0)", d.fits(0, 0), 0);
        S.due("a smaller one over it", Sentences.page(d, "i").type(0), 1);
        S.due("fits(0, 0)", d.fits(0, 0), 1);
        S.due("slots", d.count(6), 4);
        S.due("types", d.count(7), 2);
    }

    private static void typeUnknown() {
        DictProof none = Sentences.page(new DictProof(), "i");
        DictProof d = Sentences.page(S.with("-;n0i", "i"), "llllllllli");
        for (int slot : new int[] {-1, 4, MIN, MAX}) {
            S.refused(none, "type(" + slot + "), no book", UNKNOWN, () -> none.type(slot));
            S.refused(d, "type(" + slot + ") of 10 letters", UNKNOWN, () -> d.type(slot));
        }
        d.blank();
        S.refused(d, "type(4) of nothing", UNKNOWN, () -> d.type(4));
        S.due("type(3)", Sentences.page(d, "b").type(3), 1);
        S.due("type(0)", Sentences.page(d, "b").type(0), 1);
    }

    private static void typeState() {
        DictProof none = Sentences.page(new DictProof(), "i");
        S.refused(none, "type(0), no book", STATE, () -> none.type(0));
        none.blank();
        Sentences.page(none, "llllllllli");
        S.refused(none, "type(0) of 10 letters, no book", STATE, () -> none.type(0));
        DictProof d = S.with("-;n0i", "li");
        String[] wrong = {"", "l", "p", "pi", "pp", "ppii", "pli", "ii", "xi", "lii", "piii", "z", "lz", "iz", "L", "i ", " i", "-;n0i",
            "n0i", "l".repeat(10), "i".repeat(10), "l".repeat(84), "z".repeat(84), "p".repeat(42) + "i".repeat(42)};
        for (String text : wrong) {
            Sentences.page(d, text);
            S.refused(d, "type(0) of \"" + text + "\"", STATE, () -> d.type(0));
            S.due("letters of \"" + text + "\"", d.blank(), text.length());
        }
        S.due("what was in it stays", d.goal(0, 0, 0), 0);
        S.due("types", d.count(7), 1);
    }

    private static void typeFull() {
        DictProof d = S.with("-;n0i,n0lx0x", "li");
        S.due("9 letters", Sentences.page(d, "lllllllli").type(1), 9);
        S.due("9 letters", Sentences.page(d, "ppppiiiii").type(2), 9);
        for (String large : new String[] {"llllllllli", "plpppiiiii", "pppppiiiiii", "l".repeat(83) + "x", "l" + "p".repeat(41) + "i".repeat(42)}) {
            Sentences.page(d, large);
            S.refused(d, "type(0) of " + large.length() + " letters", FULL, () -> d.type(0));
            S.refused(d, "type(3) of " + large.length() + " letters", FULL, () -> d.type(3));
            S.due("letters", d.blank(), large.length());
        }
        S.due("what was in it stays", d.goal(0, 0, 1), 2);
        S.due("slots", d.count(6), 3);
    }

    // ---- promise 7

    private static void aboutLeastAndMost() {
        DictProof d = S.with("-,0,01,12;n3i,d3i,h3i,f3i,s3i,n3x3x");
        int[][] want = {{0, 0, 0}, {1, 1, 0}, {3, 3, 0}, {6, 7, 6}};
        for (int number = 0; number <= 3; number++) {
            for (int what = 0; what <= 2; what++) {
                S.due("about(" + number + ", " + what + ")", d.about(number, what), want[number][what]);
            }
        }
        S.due("about(0, 2)", S.with("-;n0i,n0i,n0i,n0i,n0i,n0i").about(0, 2), 6);
    }

    private static void aboutUnknown() {
        for (int number : new int[] {-1, 0, 3, MIN, MAX}) {
            DictProof none = new DictProof();
            S.refused(none, "about(" + number + ", 0), no book", UNKNOWN, () -> none.about(number, 0));
        }
        String[] books = {"-;n0i", "-,-;n0i", "-,-,-;n0i", "-,-,-,-;n0i"};
        for (int classes = 1; classes <= 4; classes++) {
            DictProof d = S.with(books[classes - 1]);
            S.due("about the last one", d.about(classes - 1, 0), 0);
            for (int number : new int[] {-1, classes, 4, MIN, MAX}) {
                S.refused(d, "about(" + number + ", 0)", UNKNOWN, () -> d.about(number, 0));
                S.refused(d, "about(" + number + ", 3)", UNKNOWN, () -> d.about(number, 3));
            }
        }
    }

    private static void aboutOutside() {
        DictProof d = S.with("-,0;n0i");
        for (int what : new int[] {-1, 3, MIN, MAX}) {
            S.refused(d, "about(0, " + what + ")", OUTSIDE, () -> d.about(0, what));
            S.refused(d, "about(1, " + what + ")", OUTSIDE, () -> d.about(1, what));
        }
    }

    // ---- promise 8

    private static void instanceLeastAndMost() {
        DictProof d = S.with("-,-,-,-;n0x,d1i,h2y3y0y,f3ppxyx0x0y,s3lllli,n0x0x");
        int[][] want = {{0, 0, 1, 0, 1}, {1, 1, 1, 0, 1}, {2, 2, 1, 2, 0}, {3, 3, 5, 2, 1}, {4, 3, 5, 0, 1}, {0, 0, 1, 1, 0}};
        for (int i = 0; i <= 5; i++) {
            for (int what = 0; what <= 4; what++) {
                S.due("instance(" + i + ", " + what + ")", d.instance(i, what), want[i][what]);
            }
        }
    }

    private static void instanceSortsNoneAndAll() {
        DictProof d = S.with("-;n0i,s0b");
        S.due("sorts, nothing seen", d.instance(0, 5), 31);
        S.due("sorts, nothing seen", d.instance(1, 5), 31);
        d.see(0, 1, true);
        S.due("sorts", d.instance(0, 5), 27);
        S.due("sorts of the other one", d.instance(1, 5), 31);
        d.see(0, 1, false);
        S.due("none is left", d.instance(0, 5), 0);
        d.see(0, 1, true);
        S.due("none is left", d.instance(0, 5), 0);
        d.forget();
        S.due("all again", d.instance(0, 5), 31);
    }

    private static void instanceAskNone() {
        DictProof d = S.with("-;n0i,n0b");
        S.due("of all five", d.instance(0, 6), 2);
        d.see(0, 1, false);
        S.due("of HIDDEN alone", d.instance(0, 6), 0);
        d.see(0, 1, true);
        S.due("of none", d.instance(0, 6), NONE);
        S.due("of the other one", d.instance(1, 6), 2);
        d.forget();
        S.due("of all five again", d.instance(0, 6), 2);
    }

    private static void instanceLacksNoneAndTwo() {
        DictProof d = S.with("-,-,-,12;n0i,n1i,n2i,n3i,n3b,n3lx");
        S.due("nothing is above", d.instance(0, 7), 0);
        S.due("nothing is above", d.instance(2, 7), 0);
        S.due("both are there", d.instance(3, 7), 0);
        S.due("both lack", d.instance(4, 7), 6);
        S.due("both lack", d.instance(5, 7), 6);
        d.change(1, 2);
        S.due("one is HIDDEN", d.instance(3, 7), 2);
        d.change(2, 2);
        S.due("both are HIDDEN", d.instance(3, 7), 6);
    }

    private static void instanceUnknown() {
        DictProof none = new DictProof();
        S.refused(none, "instance(0, 0), no book", UNKNOWN, () -> none.instance(0, 0));
        String book = "-;n0i";
        for (int many = 1; many <= 6; many++) {
            DictProof d = S.with(book);
            S.due("the last one", d.instance(many - 1, 2), 1);
            for (int i : new int[] {-1, many, 6, MIN, MAX}) {
                S.refused(d, "instance(" + i + ", 0)", UNKNOWN, () -> d.instance(i, 0));
                S.refused(d, "instance(" + i + ", 8)", UNKNOWN, () -> d.instance(i, 8));
            }
            book += ",n0i";
        }
    }

    private static void instanceOutside() {
        DictProof d = S.with("-;n0i,n0b");
        for (int what : new int[] {-1, 8, MIN, MAX}) {
            S.refused(d, "instance(0, " + what + ")", OUTSIDE, () -> d.instance(0, what));
            S.refused(d, "instance(1, " + what + ")", OUTSIDE, () -> d.instance(1, what));
        }
    }

    // ---- promise 9

    private static void asItsNumber() {
        DictProof d = S.with("-;n0i,d0i,h0i,f0i,s0i,s0b");
        for (int i = 0; i <= 5; i++) {
            S.due("as(" + i + ", 0)", d.as(i, 0), i);
        }
        for (int i = 1; i <= 4; i++) {
            S.due("as(" + i + ", " + i + ")", d.as(i, i), i);
        }
        S.due("as(5, 3)", d.as(5, 3), 5);
        S.due("as(5, 4)", d.as(5, 4), 5);
        S.due("kind stays", d.instance(5, 0), 4);
    }

    private static void asNone() {
        DictProof d = S.with("-;n0i,d0i,h0i,f0i,s0i");
        for (int i = 0; i <= 4; i++) {
            for (int kind = 1; kind <= 4; kind++) {
                if (kind != i && !(i == 4 && kind == 3)) {
                    S.due("as(" + i + ", " + kind + ")", d.as(i, kind), NONE);
                }
            }
        }
        d.change(0, 4);
        S.due("as(0, 3) of a SOLE one", d.as(0, 3), 0);
        d.change(0, 3);
        S.due("as(0, 4) of a FIRST one", d.as(0, 4), NONE);
    }

    private static void asUnknown() {
        DictProof none = new DictProof();
        DictProof d = S.with("-;n0i,d0i");
        for (int i : new int[] {-1, 2, 6, MIN, MAX}) {
            S.refused(none, "as(" + i + ", 0), no book", UNKNOWN, () -> none.as(i, 0));
            S.refused(d, "as(" + i + ", 0)", UNKNOWN, () -> d.as(i, 0));
            S.refused(d, "as(" + i + ", 5)", UNKNOWN, () -> d.as(i, 5));
        }
    }

    private static void asOutside() {
        DictProof d = S.with("-;n0i,d0i");
        for (int kind : new int[] {-1, 5, MIN, MAX}) {
            S.refused(d, "as(0, " + kind + ")", OUTSIDE, () -> d.as(0, kind));
            S.refused(d, "as(1, " + kind + ")", OUTSIDE, () -> d.as(1, kind));
        }
    }

    // ---- promise 10

    private static void changeTellsWhatWas() {
        DictProof d = S.with("-;s0i,n0i,n0i,n0i,n0i,d0i");
        S.due("change(0, 0)", d.change(0, 0), 4);
        S.due("change(0, 0) again", d.change(0, 0), 0);
        S.due("change(0, 4)", d.change(0, 4), 0);
        S.due("change(0, 3)", d.change(0, 3), 4);
        S.due("change(5, 4)", d.change(5, 4), 1);
        S.due("kind of 0", d.instance(0, 0), 3);
        S.due("kind of 1", d.instance(1, 0), 0);
        S.due("kind of 5", d.instance(5, 0), 4);
        DictProof one = S.with("-;n0i", "i");
        for (int kind : new int[] {2, 0, 2, 1, 2, 3, 2, 4, 0}) {
            one.change(0, kind);
            S.due("found as kind " + kind, one.goal(0, 0, 0), kind == 2 ? 0 : 1);
        }
        DictProof two = S.with("-;n0i,n0x", "i");
        int[][] taken = {{4, UNKNOWN}, {0, 0}, {1, 1}, {0, 0}, {3, 0}, {2, 1}, {0, 0}};
        for (int[] row : taken) {
            two.change(0, row[0]);
            S.due("taken as kind " + row[0], two.entry(0, 0, 0), row[1]);
        }
    }

    private static void changeUnknown() {
        DictProof none = new DictProof();
        DictProof d = S.with("-;n0i,d0i");
        for (int i : new int[] {-1, 2, 6, MIN, MAX}) {
            S.refused(none, "change(" + i + ", 1), no book", UNKNOWN, () -> none.change(i, 1));
            S.refused(d, "change(" + i + ", 1)", UNKNOWN, () -> d.change(i, 1));
            S.refused(d, "change(" + i + ", 5)", UNKNOWN, () -> d.change(i, 5));
        }
    }

    private static void changeOutside() {
        DictProof d = S.with("-;n0i,d0i");
        for (int kind : new int[] {-1, 5, MIN, MAX}) {
            S.refused(d, "change(0, " + kind + ")", OUTSIDE, () -> d.change(0, kind));
            S.refused(d, "change(1, " + kind + ")", OUTSIDE, () -> d.change(1, kind));
        }
        S.due("change(0, 4)", d.change(0, 4), 0);
        S.due("change(1, 0)", d.change(1, 0), 1);
    }

    // ---- promise 11

    private static void pairOfWhateverClassAndKind() {
        DictProof d = S.with("-,-;n0i,n0x,n1i,h0x,n0y0y");
        int[][] want = {{0, 1, 1, 0, 1}, {1, 0, 1, 0, 0}, {0, 2, 0, 0, 0}, {2, 1, 0, 0, 1}, {1, 2, 0, 0, 0}, {0, 3, 0, 0, 1},
            {3, 0, 0, 0, 0}, {3, 2, 0, 0, 0}, {2, 3, 0, 0, 1}, {1, 4, 1, 1, 0}, {4, 1, 1, 1, 0}, {0, 4, 1, 0, 1}};
        for (int[] row : want) {
            for (int what = 0; what <= 2; what++) {
                S.due("pair(" + row[0] + ", " + row[1] + ", " + what + ")", d.pair(row[0], row[1], what), row[2 + what]);
            }
        }
        for (int kind = 0; kind <= 4; kind++) {
            d.change(0, kind);
            S.due("pair(0, 1, 2) of kind " + kind, d.pair(0, 1, 2), 1);
            S.due("pair(0, 1, 1) of kind " + kind, d.pair(0, 1, 1), kind == 4 ? 1 : 0);
            S.due("pair(0, 1, 0) of kind " + kind, d.pair(0, 1, 0), kind == 2 ? 0 : 1);
        }
    }

    private static void pairUnknown() {
        DictProof none = new DictProof();
        S.refused(none, "pair(0, 1, 0), no book", UNKNOWN, () -> none.pair(0, 1, 0));
        DictProof d = S.with("-;n0i,n0x,n0b");
        for (int i : new int[] {-1, 3, 6, MIN, MAX}) {
            S.refused(d, "pair(" + i + ", 0, 0)", UNKNOWN, () -> d.pair(i, 0, 0));
            S.refused(d, "pair(0, " + i + ", 0)", UNKNOWN, () -> d.pair(0, i, 0));
            S.refused(d, "pair(" + i + ", 2, 3)", UNKNOWN, () -> d.pair(i, 2, 3));
            S.refused(d, "pair(2, " + i + ", 3)", UNKNOWN, () -> d.pair(2, i, 3));
            S.refused(d, "pair(" + i + ", " + i + ", 0)", UNKNOWN, () -> d.pair(i, i, 0));
        }
        for (int i = 0; i <= 2; i++) {
            int same = i;
            S.refused(d, "pair of the same, " + i, UNKNOWN, () -> d.pair(same, same, 0));
            S.refused(d, "pair of the same, " + i + ", outside", UNKNOWN, () -> d.pair(same, same, 3));
        }
        S.due("pair(2, 1, 2)", d.pair(2, 1, 2), 1);
    }

    private static void pairOutside() {
        DictProof d = S.with("-;n0i,n0x");
        for (int what : new int[] {-1, 3, MIN, MAX}) {
            S.refused(d, "pair(0, 1, " + what + ")", OUTSIDE, () -> d.pair(0, 1, what));
            S.refused(d, "pair(1, 0, " + what + ")", OUTSIDE, () -> d.pair(1, 0, what));
        }
    }

    // ---- promise 12

    private static void fitsOfWhateverKind() {
        DictProof d = S.with("-,-;n0i,d0lx,h1x,f0x0x,s1pxx,n0y", "lllllllli", "i", "x", "plxlx");
        int[][] want = {{0, 1, 0, 0}, {1, 0, 0, 0}, {1, 1, 1, 1}, {1, 1, 1, 1}, {0, 0, 0, 1}, {1, 1, 1, 1}};
        for (int i = 0; i <= 5; i++) {
            for (int slot = 0; slot <= 3; slot++) {
                S.due("fits(" + i + ", " + slot + ")", d.fits(i, slot), want[i][slot]);
            }
        }
        for (int kind = 0; kind <= 4; kind++) {
            d.change(1, kind);
            S.due("fits(1, 0) of kind " + kind, d.fits(1, 0), 1);
            S.due("fits(1, 1) of kind " + kind, d.fits(1, 1), 0);
        }
    }

    private static void fitsUnknown() {
        DictProof none = new DictProof();
        S.refused(none, "fits(0, 0), no book", UNKNOWN, () -> none.fits(0, 0));
        DictProof d = S.with("-;n0i,n0x", "i", "", "", "i");
        for (int i : new int[] {-1, 2, 6, MIN, MAX}) {
            S.refused(d, "fits(" + i + ", 0)", UNKNOWN, () -> d.fits(i, 0));
        }
        for (int slot : new int[] {-1, 1, 2, 4, MIN, MAX}) {
            S.refused(d, "fits(1, " + slot + ")", UNKNOWN, () -> d.fits(1, slot));
        }
        S.due("fits(1, 3)", d.fits(1, 3), 1);
    }

    // ---- promise 13

    private static void goalOutcomes() {
        DictProof d = S.with("-,-,-,-;n0i,n0i,n3b,n3lllli", "i", "b", "y", "lllli");
        int[][] want = {{-2, 0, 1, 0}, {0, 0, 1, 0}, {0, 0, 1, 0}, {0, 1, 1, 1}};
        for (int number = 0; number <= 3; number++) {
            for (int slot = 0; slot <= 3; slot++) {
                S.due("goal(" + number + ", " + slot + ", 0)", d.goal(number, slot, 0), want[number][slot]);
            }
        }
    }

    private static void goalLeastAndMostNumbers() {
        DictProof d = S.with("-;n0i,n0lx0x0x,n0pxy0x0y", "i", "x", "lllllllli", "ppppiiiii");
        int[] want = {1, 1, 511, 9};
        for (int slot = 0; slot <= 3; slot++) {
            S.due("goal(0, " + slot + ", 1)", d.goal(0, slot, 1), want[slot]);
        }
    }

    private static void goalWorthWraps() {
        // "x" 10, "y" 11, "pxy" 21 + 20 + 33 = 74, "ppxyx" 21 + 148 + 30 = 199, with "l" 14 + 398 + 597 = 1009.
        S.due("worth, 1009", S.with("-;n0i,n0lx0x0x,n0pxy0x0y", "lppxyx").goal(0, 0, 2), 0);
        DictProof d = S.with("-;n0i,n0lx0x,n0pxy0x0y", "lpillli", "lllplyi", "pillli");
        // "i" 7, "li" 28, "lli" 70, "llli" 154, "pillli" 21 + 14 + 462 = 497, with "l" 14 + 994 = 1008.
        S.due("worth, 497", d.goal(0, 2, 2), 497);
        S.due("worth, 1008", d.goal(0, 0, 2), 1008);
        // "ly" 36, "plyi" 21 + 72 + 21 = 114, with "l" 242, 498, and 14 + 996 = 1010.
        S.due("worth, 1010", d.goal(0, 1, 2), 1);
        DictProof edge = S.with("-,-,-,-;n0b,n0b,n0b,n0b,n0b,n0i", "x", "y", "i");
        S.due("worth of the least need", edge.goal(0, 0, 2), 10);
        S.due("worth of the greatest need", edge.goal(3, 1, 2), 17);
        S.due("worth of the last instance", edge.goal(0, 2, 2), 42);
    }

    private static void goalDifferentGoals() {
        // One goal of the whole type, two of the next one, and four of each of the seven others.
        DictProof d = S.with("-,-,-,-;n0lx0x1x,n1lx2x3x,n2lx0x1x,n3lx2x3x,n0i", "llllllllx", "x", "i", "lx");
        S.due("goals, most", d.goal(0, 0, 3), 31);
        S.due("goals of class 3, most", d.goal(3, 0, 3), 31);
        S.due("goals of a need", d.goal(3, 1, 3), 1);
        S.due("goals without conditions", d.goal(0, 2, 3), 1);
        S.due("goals with two needs", d.goal(3, 3, 3), 3);
        DictProof alike = S.with("-;n0i,n0lx0x0x,n0pxy0x0y", "lllllllli", "ppiipii", "pxx", "plilb");
        S.due("alike ones once", alike.goal(0, 0, 3), 9);
        S.due("alike ones once", alike.goal(0, 1, 3), 3);
        S.due("alike needs once", alike.goal(0, 2, 3), 2);
        S.due("not found", alike.goal(0, 3, 3), NONE);
    }

    private static void goalDepth() {
        DictProof d = S.with("-;n0i,n0lx0x,n0pxy0x0y,n0llx", "lllllllli", "x", "i", "ppiili");
        S.due("deep by a head of its own", d.goal(0, 0, 4), 1);
        S.due("a need", d.goal(0, 1, 4), 1);
        S.due("without conditions", d.goal(0, 2, 4), 1);
        S.due("the first is deeper or alike", d.goal(0, 3, 4), 3);
        d.change(3, 2);
        S.due("deepest", d.goal(0, 0, 4), 9);
        S.put(d, 1, "pplixi");
        S.due("the first is deeper", d.goal(0, 1, 4), 4);
        S.put(d, 1, "pipxli");
        S.due("the second is deeper", d.goal(0, 1, 4), 4);
    }

    private static void goalNeedsNoneAndAll() {
        DictProof d = S.with(ALL_NEEDS, ALL_NEEDS_TYPE, "pllxllx", "y");
        S.due("needs, all", d.goal(0, 0, 5), 8);
        S.due("needs of one variable, each once", d.goal(0, 1, 5), 4);
        S.due("needs of a need", d.goal(3, 2, 5), 1);
        S.due("needs, none", S.with("-;n0lx0x,n0i", "lli").goal(0, 0, 5), 0);
        S.due("a variable that is not asked for", S.with("-;n0lx", "lx").goal(0, 0, 5), 0);
    }

    private static void goalPlainNeedsNoneAndAll() {
        DictProof d = S.with(ALL_NEEDS, ALL_NEEDS_TYPE, "pllxllx", "y");
        S.due("plain needs of all", d.goal(0, 0, 6), 2);
        S.due("plain needs of one variable", d.goal(0, 1, 6), 1);
        S.due("plain needs of a need", d.goal(3, 2, 6), 1);
        S.due("plain needs, none", S.with("-;n0lx0x,n0i", "lli").goal(0, 0, 6), 0);
        String flat = ALL_NEEDS.replace("-,0,1,2;", "-,-,-,-;");
        S.due("plain needs, all", S.with(flat, ALL_NEEDS_TYPE).goal(0, 0, 6), 8);
    }

    private static void goalNoneIfNotFound() {
        DictProof d = S.with("-;n0i,n0i,n0lx0x,n0pxy0x0y", "i", "b", "li", "pxlb");
        int[] outcome = {-2, 0, -2, 0};
        for (int slot = 0; slot <= 3; slot++) {
            S.due("goal(0, " + slot + ", 0)", d.goal(0, slot, 0), outcome[slot]);
            for (int what = 1; what <= 6; what++) {
                S.due("goal(0, " + slot + ", " + what + ")", d.goal(0, slot, what), NONE);
            }
        }
    }

    private static void goalUnknown() {
        DictProof none = new DictProof();
        S.refused(none, "goal(0, 0, 0), no book", UNKNOWN, () -> none.goal(0, 0, 0));
        DictProof d = S.with("-,-;n0i", "i", "", "", "i");
        for (int number : new int[] {-1, 2, 4, MIN, MAX}) {
            S.refused(d, "goal(" + number + ", 0, 0)", UNKNOWN, () -> d.goal(number, 0, 0));
            S.refused(d, "goal(" + number + ", 0, 7)", UNKNOWN, () -> d.goal(number, 0, 7));
        }
        for (int slot : new int[] {-1, 1, 2, 4, MIN, MAX}) {
            S.refused(d, "goal(1, " + slot + ", 0)", UNKNOWN, () -> d.goal(1, slot, 0));
            S.refused(d, "goal(1, " + slot + ", 7)", UNKNOWN, () -> d.goal(1, slot, 7));
        }
        S.due("goal(1, 3, 0)", d.goal(1, 3, 0), 0);
    }

    private static void goalOutside() {
        DictProof d = S.with("-;n0i", "i", "b");
        for (int what : new int[] {-1, 7, MIN, MAX}) {
            S.refused(d, "goal(0, 0, " + what + ")", OUTSIDE, () -> d.goal(0, 0, what));
            S.refused(d, "goal(0, 1, " + what + "), not found", OUTSIDE, () -> d.goal(0, 1, what));
        }
    }

    // ---- promise 14

    private static void entryFirstAndLast() {
        DictProof d = S.with("-;n0i,n0lx0x0x", "lllllllli", "i", "y");
        for (int place = 0; place <= 7; place++) {
            S.due("entry(0, 0, " + place + ")", d.entry(0, 0, place), 1);
        }
        int[][] want = {{8, 0}, {9, 0}, {10, 1}, {11, 0}, {12, 0}, {13, 1}, {255, 0}, {256, 1}, {507, 0}, {508, 1}, {509, 0}, {510, 0}};
        for (int[] row : want) {
            S.due("entry(0, 0, " + row[0] + ")", d.entry(0, 0, row[0]), row[1]);
        }
        S.due("the only one", d.entry(0, 1, 0), 0);
        S.due("of a need", d.entry(0, 2, 0), 11);
    }

    private static void entryUnknown() {
        DictProof none = new DictProof();
        S.refused(none, "entry(0, 0, 0), no book", UNKNOWN, () -> none.entry(0, 0, 0));
        DictProof d = S.with("-,-;n0i,n0lx0x0x,n0b,n0b", "lllllllli", "i", "llb");
        for (int number : new int[] {-1, 2, 4, MIN, MAX}) {
            S.refused(d, "entry(" + number + ", 0, 0)", UNKNOWN, () -> d.entry(number, 0, 0));
        }
        for (int slot : new int[] {-1, 3, 4, MIN, MAX}) {
            S.refused(d, "entry(0, " + slot + ", 0)", UNKNOWN, () -> d.entry(0, slot, 0));
        }
        for (int place : new int[] {-1, 511, 512, MIN, MAX}) {
            S.refused(d, "entry(0, 0, " + place + ")", UNKNOWN, () -> d.entry(0, 0, place));
        }
        S.refused(d, "entry(0, 1, 1)", UNKNOWN, () -> d.entry(0, 1, 1));
        S.refused(d, "entry(1, 1, 0), stuck", UNKNOWN, () -> d.entry(1, 1, 0));
        S.refused(d, "entry(0, 2, 0), unclear", UNKNOWN, () -> d.entry(0, 2, 0));
        S.due("entry(0, 0, 510)", d.entry(0, 0, 510), 0);
    }

    // ---- promise 15

    private static void needOfEach() {
        DictProof d = S.with(ALL_NEEDS, ALL_NEEDS_TYPE, "pllxlly", "plxi", "x");
        for (int need = 0; need <= 3; need++) {
            for (int variable = 0; variable <= 1; variable++) {
                String call = "need(.., " + need + ", " + variable + ")";
                S.due(call + " of all", d.need(0, 0, need, variable), need == 3 ? 2 : 1);
                S.due(call + ", not found", d.need(0, 2, need, variable), 0);
                S.due(call + " of a need", d.need(1, 3, need, variable), need == 1 && variable == 0 ? 2 : 0);
            }
        }
    }

    private static void needUnknown() {
        DictProof none = new DictProof();
        S.refused(none, "need(0, 0, 0, 0), no book", UNKNOWN, () -> none.need(0, 0, 0, 0));
        DictProof d = S.with("-,-;n0i", "x", "", "", "y");
        for (int number : new int[] {-1, 2, 4, MIN, MAX}) {
            S.refused(d, "need(" + number + ", 0, 0, 0)", UNKNOWN, () -> d.need(number, 0, 0, 0));
            S.refused(d, "need(" + number + ", 0, 2, 2)", UNKNOWN, () -> d.need(number, 0, 2, 2));
        }
        for (int slot : new int[] {-1, 1, 2, 4, MIN, MAX}) {
            S.refused(d, "need(0, " + slot + ", 0, 0)", UNKNOWN, () -> d.need(0, slot, 0, 0));
            S.refused(d, "need(0, " + slot + ", 2, 2)", UNKNOWN, () -> d.need(0, slot, 2, 2));
        }
        S.due("need(1, 3, 1, 1)", d.need(1, 3, 1, 1), 2);
    }

    private static void needOutside() {
        DictProof d = S.with("-,-;n0i", "x", "b");
        for (int need : new int[] {-1, 2, 3, 4, MIN, MAX}) {
            S.refused(d, "need(0, 0, " + need + ", 0)", OUTSIDE, () -> d.need(0, 0, need, 0));
            S.refused(d, "need(0, 1, " + need + ", 0), not found", OUTSIDE, () -> d.need(0, 1, need, 0));
        }
        for (int variable : new int[] {-1, 2, MIN, MAX}) {
            S.refused(d, "need(0, 0, 0, " + variable + ")", OUTSIDE, () -> d.need(0, 0, 0, variable));
            S.refused(d, "need(0, 1, 1, " + variable + "), not found", OUTSIDE, () -> d.need(0, 1, 1, variable));
        }
        S.due("need(0, 0, 1, 1)", d.need(0, 0, 1, 1), 0);
    }

    // ---- promise 16

    private static void seeHowMuch() {
        DictProof d = S.with("-;n0i,n0b,n0x,n0y,n0li,n0lb");
        for (int i = 0; i <= 5; i++) {
            S.due("see(" + i + ", ..)", d.see(i, i % 4, i % 2 == 0), i + 1);
        }
        d.forget();
        S.due("see(0, 3, true)", d.see(0, 3, true), 1);
        S.due("the same again", d.see(0, 3, true), 2);
        S.due("what cannot be", d.see(0, 3, false), 3);
    }

    private static void seeUnknown() {
        DictProof none = new DictProof();
        S.refused(none, "see(0, 0, true), no book", UNKNOWN, () -> none.see(0, 0, true));
        DictProof d = S.with("-;n0i,n0b");
        for (int i : new int[] {-1, 2, 6, MIN, MAX}) {
            S.refused(d, "see(" + i + ", 0, true)", UNKNOWN, () -> d.see(i, 0, true));
            S.refused(d, "see(" + i + ", 4, true)", UNKNOWN, () -> d.see(i, 4, true));
        }
        seeSix(d);
        S.refused(d, "see(2, 0, true) when it is full", UNKNOWN, () -> d.see(2, 0, true));
    }

    private static void seeSix(DictProof d) {
        for (int i = 1; i <= 6; i++) {
            S.due("see " + i, d.see(0, 1, true), i);
        }
    }

    private static void seeOutside() {
        DictProof d = S.with("-;n0i,n0b");
        for (int what : new int[] {-1, 4, MIN, MAX}) {
            S.refused(d, "see(0, " + what + ", true)", OUTSIDE, () -> d.see(0, what, true));
            S.refused(d, "see(1, " + what + ", false)", OUTSIDE, () -> d.see(1, what, false));
        }
        S.due("see(0, 0, false)", d.see(0, 0, false), 1);
        S.due("see(1, 3, false)", d.see(1, 3, false), 2);
        d.forget();
        seeSix(d);
        S.refused(d, "see(0, 4, true) when it is full", OUTSIDE, () -> d.see(0, 4, true));
    }

    private static void seeFull() {
        DictProof d = S.with("-;n0i,n0b");
        seeSix(d);
        for (int what = 0; what <= 3; what++) {
            int asked = what;
            S.refused(d, "see(0, " + what + ", true)", FULL, () -> d.see(0, asked, true));
            S.refused(d, "see(1, " + what + ", false)", FULL, () -> d.see(1, asked, false));
        }
        S.due("sorts of 0", d.instance(0, 5), 27);
        S.due("sorts of 1", d.instance(1, 5), 31);
        S.due("image()", d.image(), 0);
        S.due("forget()", d.forget(), 6);
        S.due("see behind forget()", d.see(1, 0, true), 1);
        S.due("restore()", d.restore(), 0);
        S.refused(d, "see behind restore()", FULL, () -> d.see(1, 0, true));
    }

    // ---- promise 17

    private static void forgetNoneAndAll() {
        DictProof none = new DictProof();
        S.due("forget(), no book", none.forget(), 0);
        DictProof d = S.with("-;n0i,n0b", "i");
        S.due("forget() of none", d.forget(), 0);
        seeSix(d);
        d.change(1, 3);
        S.due("forget() of all", d.forget(), 6);
        S.due("seen", d.count(8), 0);
        S.due("sorts", d.instance(0, 5), 31);
        S.due("kind stays", d.instance(1, 0), 3);
        S.due("slot stays", d.count(6), 1);
        S.due("forget() again", d.forget(), 0);
        S.due("see()", d.see(1, 1, false), 1);
        S.due("forget() of one", d.forget(), 1);
    }

    // ---- promise 18

    private static void drawnAsDue(DictProof d, int classes, int times, int seed) {
        Draws draws = new Draws(seed);
        int letters = 0;
        for (int i = 0; i < times; i++) {
            draws.draw(classes);
            letters += draws.type(0).length();
        }
        String call = "drawn(" + times + ", " + seed + ", ";
        S.due(call + "0)", d.drawn(times, seed, 0), times);
        S.due(call + "1)", d.drawn(times, seed, 1), letters);
        S.due(call + "2)", d.drawn(times, seed, 2), draws.seed());
    }

    private static void drawnLeastAndMost() {
        String[] books = {"-;n0x", "-,-;n0x,n1x", "-,-,-;n0x,n1x,n2x", "-,-,-,-;n0x,n1x,n2x,n3x"};
        for (int classes = 1; classes <= 4; classes++) {
            DictProof d = S.with(books[classes - 1], "li");
            long before = d.digest();
            for (int seed : new int[] {0, 1, 65535, 65536, 1 << 30, MAX - 1, MAX}) {
                drawnAsDue(d, classes, 1, seed);
                drawnAsDue(d, classes, 2, seed);
                drawnAsDue(d, classes, 30, seed);
            }
            S.due("nothing is changed", d.digest(), before);
        }
        S.due("none is found", S.with("-;h0x").drawn(30, 7, 0), 0);
    }

    private static void drawnOutside() {
        DictProof none = new DictProof();
        DictProof d = S.with("-;n0x");
        for (DictProof one : new DictProof[] {none, d}) {
            for (int times : new int[] {0, -1, 31, MIN, MAX}) {
                S.refused(one, "drawn(" + times + ", 0, 0)", OUTSIDE, () -> one.drawn(times, 0, 0));
            }
            for (int seed : new int[] {-1, MIN, MIN + 1}) {
                S.refused(one, "drawn(1, " + seed + ", 0)", OUTSIDE, () -> one.drawn(1, seed, 0));
            }
            for (int what : new int[] {-1, 3, MIN, MAX}) {
                S.refused(one, "drawn(1, 0, " + what + ")", OUTSIDE, () -> one.drawn(1, 0, what));
            }
        }
    }

    private static void drawnState() {
        DictProof d = new DictProof();
        S.refused(d, "drawn(1, 0, 0)", STATE, () -> d.drawn(1, 0, 0));
        S.refused(d, "drawn(30, MAX, 2)", STATE, () -> d.drawn(30, MAX, 2));
        Sentences.page(d, "-;n0x");
        S.refused(d, "drawn(1, 0, 1) ahead of book()", STATE, () -> d.drawn(1, 0, 1));
        d.book();
        S.due("drawn(1, 0, 0) behind book()", d.drawn(1, 0, 0), 1);
    }

    // ---- promises 19 and 20

    private static void imageTheLatest() {
        DictProof d = S.with("-;n0i,n0lx");
        S.due("image() of no slot", d.image(), 0);
        S.put(d, 3, "i");
        S.due("image() of one slot", d.image(), 1);
        S.put(d, 0, "i");
        S.put(d, 1, "i");
        S.put(d, 2, "i");
        d.change(0, 4);
        d.see(0, 0, true);
        S.due("image() of all slots", d.image(), 4);
        S.due("image() again", d.image(), 4);
        long kept = d.digest();
        S.put(d, 0, "li");
        d.change(0, 1);
        d.forget();
        S.due("restore() of the latest", d.restore(), 4);
        S.due("digest()", d.digest(), kept);
    }

    private static void imageState() {
        DictProof d = Sentences.page(new DictProof(), "-;n0i");
        S.refused(d, "image()", STATE, d::image);
        S.refused(d, "restore()", STATE, d::restore);
        d.book();
        S.refused(d, "restore(): the refused one kept nothing", STATE, d::restore);
        S.due("image() behind book()", d.image(), 0);
        S.due("restore()", d.restore(), 0);
    }

    private static void restoreGoesOn() {
        DictProof d = S.with("-;n0i,n0b,n0b,n0b,n0b,n0lx0x", "lli", "", "", "b");
        for (int i = 1; i <= 6; i++) {
            d.see(i - 1, 0, true);
        }
        d.change(5, 3);
        long kept = d.digest();
        S.due("image()", d.image(), 2);
        for (int again = 0; again < 2; again++) {
            for (int slot = 0; slot <= 3; slot++) {
                S.put(d, slot, "lllllllli");
                d.change(slot + 2, 4);
            }
            S.due("forget()", d.forget(), 6);
            d.see(3, 3, false);
            Sentences.page(d, "zz");
            S.due("restore()", d.restore(), 2);
            S.due("letters stay", d.blank(), 2);
            S.due("digest()", d.digest(), kept);
            S.due("kind", d.instance(5, 0), 3);
            S.due("what was put", d.goal(0, 0, 1), 3);
            S.refused(d, "fits(0, 1) of a slot that was empty", UNKNOWN, () -> d.fits(0, 1));
        }
    }

    private static void restoreState() {
        DictProof d = S.with("-;n0i", "i");
        S.refused(d, "restore(), none was kept", STATE, d::restore);
        S.due("image()", d.image(), 1);
        Sentences.page(d, "-;n0");
        S.refused(d, "book()", STATE, d::book);
        S.due("restore() behind a refused book()", d.restore(), 1);
        S.due("book() of the same text", Sentences.page(d, "i").book(), 1);
        S.refused(d, "restore() behind another book", STATE, d::restore);
        S.due("image()", d.image(), 0);
        S.put(d, 0, "i");
        S.due("restore()", d.restore(), 0);
    }

    // ---- promise 21

    private static void counted(int what, int atFirst, String small, int few, String large, int most) {
        S.due("count(" + what + ") of a new object", new DictProof().count(what), atFirst);
        S.due("count(" + what + ") of " + small, S.with(small).count(what), few);
        S.due("count(" + what + ") of " + large, S.with(large).count(what), most);
    }

    private static void countSlots() {
        DictProof d = S.with("-;n0i");
        S.due("count(6), none", d.count(6), 0);
        for (int slot = 3; slot >= 0; slot--) {
            S.put(d, slot, "x");
            S.due("count(6)", d.count(6), 4 - slot);
        }
        S.put(d, 0, "y");
        S.due("count(6), over another one", d.count(6), 4);
    }

    private static void countTypes() {
        DictProof d = S.with("-;n0i");
        S.due("count(7), none", d.count(7), 0);
        S.put(d, 3, "pxy");
        S.due("count(7), one", d.count(7), 1);
        for (int slot = 0; slot <= 2; slot++) {
            S.put(d, slot, "pxy");
            S.due("count(7), all alike", d.count(7), 1);
        }
        S.put(d, 1, "pyx");
        S.due("count(7), other variables are other types", d.count(7), 2);
        S.put(d, 2, "x");
        S.due("count(7)", d.count(7), 3);
        S.put(d, 0, "y");
        S.due("count(7), all different", d.count(7), 4);
        S.put(d, 0, "llllllllx");
        S.put(d, 1, "lllllllly");
        S.due("count(7), different at the last letter", d.count(7), 4);
    }

    private static void countSeen() {
        DictProof d = S.with("-;n0i,n0b");
        S.due("count(8), none", d.count(8), 0);
        seeSix(d);
        S.due("count(8), full", d.count(8), 6);
        S.refused(d, "see when it is full", FULL, () -> d.see(1, 0, true));
        S.due("count(8), still", d.count(8), 6);
        d.forget();
        S.due("count(8), none", d.count(8), 0);
    }

    private static void countLetters() {
        DictProof d = new DictProof();
        S.due("count(9), none", d.count(9), 0);
        Sentences.page(d, "i".repeat(84));
        S.due("count(9), full", d.count(9), 84);
        Sentences.page(d, "i");
        S.due("count(9), still", d.count(9), 84);
        d.blank();
        S.due("count(9), none", d.count(9), 0);
    }

    private static void countBooks() {
        DictProof d = new DictProof();
        S.due("count(10), none", d.count(10), 0);
        d.book();
        Sentences.page(d, "-;n0").book();
        S.due("count(10), refused", d.count(10), 0);
        Sentences.page(d, "i").book();
        S.due("count(10)", d.count(10), 1);
        d.fault();
        d.book();
        S.due("count(10), refused", d.count(10), 1);
        for (int many = 2; many <= 60; many++) {
            Sentences.page(d, "-;n0i").book();
            S.due("count(10)", d.count(10), many);
        }
    }

    private static void countOutside() {
        DictProof none = new DictProof();
        DictProof d = S.with(LARGEST);
        for (int what : new int[] {-1, 11, MIN, MAX}) {
            S.refused(none, "count(" + what + "), no book", OUTSIDE, () -> none.count(what));
            S.refused(d, "count(" + what + ")", OUTSIDE, () -> d.count(what));
        }
    }

    // ---- promise 22

    /** What digest() must tell, by what the other calls tell, with numbers that cannot wrap on the way. */
    private static long folded(DictProof d, String page) {
        BigInteger h = BigInteger.valueOf(1367);
        for (int number = 0; d.about(number, 0) != UNKNOWN; number++) {
            for (int what = 0; what <= 2; what++) {
                h = fold(h, d.about(number, what));
            }
        }
        for (int i = 0; d.instance(i, 0) != UNKNOWN; i++) {
            for (int what = 0; what <= 7; what++) {
                h = fold(h, d.instance(i, what));
            }
        }
        for (int slot = 0; slot <= 3; slot++) {
            for (int number = 0; d.goal(number, slot, 0) != UNKNOWN; number++) {
                for (int what = 0; what <= 6; what++) {
                    h = fold(h, d.goal(number, slot, what));
                }
            }
        }
        for (char c : page.toCharArray()) {
            h = fold(h, c);
        }
        for (int what = 0; what <= 10; what++) {
            h = fold(h, d.count(what));
        }
        return h.longValue();
    }

    private static BigInteger fold(BigInteger h, int number) {
        return h.multiply(BigInteger.valueOf(31)).add(BigInteger.valueOf(number));
    }

    private static void digestWraps() {
        // 1367 times 31 eleven times is 34733387917385403977, which is more than a long has.
        DictProof d = new DictProof();
        S.due("digest() of a new object", d.digest(), new BigInteger("34733387917385403977").longValue());
        S.due("digest() of a new object", d.digest(), folded(d, ""));
        d.letter(33);
        S.due("digest() of one letter", d.digest(), folded(d, "!"));
        DictProof less = S.with("-;n0i", "b");
        S.due("digest() with NONE in it", less.digest(), folded(less, ""));
    }

    private static void digestOfClasses() {
        for (String book : new String[] {"-;n0i", "-,0;n0i", "-,-,01;n1i,n1i", "-,0,1,2;n3i", "-,0,01,12;n3i,n3i,n3i,n3i,n3i,n3i"}) {
            DictProof d = S.with(book);
            S.due("digest() of " + book, d.digest(), folded(d, ""));
        }
    }

    private static void digestOfInstances() {
        DictProof d = S.with(LARGEST);
        S.due("digest() of the largest book", d.digest(), folded(d, ""));
        d.see(0, 1, true);
        d.see(0, 1, false);
        d.change(5, 4);
        S.due("digest() with no sorts, and another kind", d.digest(), folded(d, ""));
    }

    private static void digestOfSlots() {
        DictProof d = S.with("-,0,1,2;n0i,n3lx3x0x,n1x", "", "lllllllly", "", "i");
        S.due("digest(), slots 1 and 3", d.digest(), folded(d, ""));
        S.put(d, 0, "x");
        S.put(d, 2, "pib");
        S.due("digest(), all slots", d.digest(), folded(d, ""));
    }

    private static void digestOfPage() {
        DictProof d = S.with("-;n0i");
        S.due("digest() of no letter", d.digest(), folded(d, ""));
        String page = " ~".repeat(41) + "i";
        Sentences.page(d, page);
        S.due("digest() of 83 letters", d.digest(), folded(d, page));
        d.letter('p');
        S.due("digest() of 84 letters", d.digest(), folded(d, page + "p"));
        d.blank();
        S.due("digest() of no letter", d.digest(), folded(d, ""));
    }

    private static void digestOfCounts() {
        DictProof d = S.with("-,0;n0x0x,n0i,n0x,s1i,n1x,h1y1y", "i", "li", "i");
        seeSix(d);
        Sentences.page(d, "abc");
        S.due("digest()", d.digest(), folded(d, "abc"));
        d.blank();
        Sentences.page(d, LARGEST).book();
        S.due("digest() of a second book", d.digest(), folded(d, ""));
    }
}
