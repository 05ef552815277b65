import java.io.IOException;
import java.util.ArrayList;
import java.util.HashSet;
import java.util.List;
import java.util.Set;
import java.util.function.BiPredicate;

/**
 * The boundary cases that the document names ahead of its promises. Each test names the sentence and
 * the promise by whose call it is seen; together they name every sentence of the terms.
 */
public final class TermsTest {
    private static final int NONE = Sentences.NONE, UNKNOWN = Sentences.UNKNOWN, OUTSIDE = Sentences.OUTSIDE;
    private static final int STATE = Sentences.STATE, FULL = Sentences.FULL;
    private static final int UNCLEAR = -2;
    private static final String LARGEST = Sentences.LARGEST;
    private static final String KIND_LETTERS = "ndhfs";
    private static final String REFUSALS = "Refusals, of several the first as told by each call: UNKNOWN (a number names nothing), "
        + "OUTSIDE (it is not as told), STATE (as told), FULL; they change nothing.";

    private static final Sentences S = new Sentences();

    public static void main(String[] args) throws IOException {
        termsOfTypesAndBooks();
        termsOfGoals();
        termsOfDictionaries();
        termsOfWhatIsSeen();
        refusals();
        S.lookUpTerms(args.length > 0 ? args[0] : ".");
        S.end();
    }

    private static void termsOfTypesAndBooks() {
        S.test(6, "A TYPE is \"i\" or \"b\"; \"l\" and a TYPE; \"p\" and two TYPES; or a VARIABLE, \"x\" (0) or \"y\" (1).",
            TermsTest::typesAndNoOthers);
        S.test(1, "An object is used for at most 512 calls after it has been made; what later calls answer is free.",
            TermsTest::allOf512Calls);
        S.test(6, "Its SIZE is how many letters it has.", TermsTest::sizes);
        S.test(4, "A BOOK is a text: one to four CLASSES (numbered from 0) with \",\" between,", TermsTest::oneToFourClasses);
        S.test(4, "each \"-\", or one or two digits of lesser CLASSES, going up: those RIGHT ABOVE it;", TermsTest::digitsOfLesserClasses);
        S.test(4, "\";\"; one to six INSTANCES (numbered from 0) with \",\" between,", TermsTest::oneToSixInstances);
        S.test(4, "each a letter, the KIND, the digit of a CLASS, a TYPE of a SIZE of 5 at most, the HEAD,", TermsTest::kindClassHead);
        S.test(4, "and none, one or two CONDITIONS, each the digit of a CLASS and a VARIABLE of the HEAD.", TermsTest::noneToTwoConditions);
        S.test(1, "At first there is none.", TermsTest::noBookAtFirst);
        S.test(8, "KINDS are told by the letter: 0 INSTANCE \"n\", 1 SPARE \"d\", 2 HIDDEN \"h\", 3 FIRST \"f\", 4 SOLE \"s\".",
            TermsTest::kindsByLetter);
        S.test(9, "All are INSTANCES; a SOLE one is FIRST, too.", TermsTest::soleIsFirst);
        S.test(7, "ABOVE a CLASS are those RIGHT ABOVE it, and those ABOVE these.", TermsTest::above);
        S.test(12, "A HEAD FITS a TYPE, if for each VARIABLE of the HEAD a TYPE can be put (for the same VARIABLE the same one) "
            + "so that it is that TYPE (VARIABLES of that TYPE are as other letters).", TermsTest::fitting);
        S.test(11, "A HEAD is MORE SPECIAL than another one, if that other one FITS it (as a TYPE), and it does not FIT that one.",
            TermsTest::moreSpecial);
        S.test(8, "An INSTANCE is SOUND, if it has no CONDITIONS, or its HEAD is not a VARIABLE alone.", TermsTest::sound);
    }

    private static void termsOfGoals() {
        S.test(13, "A GOAL is a CLASS and a TYPE.", TermsTest::goalIsClassAndType);
        S.test(13, "If the TYPE is a VARIABLE, the GOAL is a NEED, and is FOUND by that.", TermsTest::variableIsNeed);
        S.test(13, "Else those are MEANT for it that are INSTANCES of that CLASS, SOUND, not HIDDEN, and whose HEAD FITS.",
            TermsTest::meant);
        S.test(13, "If none is MEANT, it is STUCK.", TermsTest::stuck);
        S.test(13, "If there are two or more, and one of them is SOLE, it is UNCLEAR.", TermsTest::soleAmongOthers);
        S.test(13, "Else, of those MEANT the FIRST ones (SOLE ones with them), if there are any, else all that are not SPARE, "
            + "if there are any, else the SPARE ones:", TermsTest::groups);
        S.test(13, "if it is one alone, it is TAKEN;", TermsTest::oneAlone);
        S.test(13, "if one is MORE SPECIAL than each other one of these, that one is; else it is UNCLEAR.", TermsTest::mostSpecial);
        S.test(13, "By the INSTANCE that is TAKEN its CONDITIONS are GOALS, each of its CLASS and of the TYPE that was put "
            + "for its VARIABLE, in order:", TermsTest::conditionsAreGoals);
        S.test(13, "if all are FOUND, the GOAL is FOUND; else it is as the first one is that is not FOUND.", TermsTest::asTheFirstNotFound);
    }

    private static void termsOfDictionaries() {
        S.test(14, "The DICTIONARY of a GOAL that is FOUND is a row of numbers: of a NEED 10, and twice the CLASS, and the VARIABLE; "
            + "else the number of the INSTANCE that is TAKEN, and behind it the DICTIONARIES of its CONDITIONS, in order.",
            TermsTest::dictionaries);
        S.test(13, "The WORTH of a NEED is its number; that of another GOAL 7 times one more than the INSTANCE, and for its CONDITIONS, "
            + "in order, twice, three times the WORTH of each, its rest by 1009.", TermsTest::worthByRest);
        S.test(15, "NEEDS of a GOAL that is FOUND: all that are in its DICTIONARY, each once;", TermsTest::needsOnce);
        S.test(15, "PLAIN NEEDS: those of them of whose CLASS none other of these of the same VARIABLE has a CLASS below it "
            + "(that has it ABOVE).", TermsTest::plainNeeds);
        S.test(11, "Two INSTANCES OVERLAP, if they are of one CLASS, neither is HIDDEN, and there is a TYPE without VARIABLES "
            + "that both HEADS FIT.", TermsTest::overlapping);
        S.test(11, "They CLASH, if they OVERLAP, and neither HEAD is MORE SPECIAL than the other one, or one of both is SOLE.",
            TermsTest::clashing);
        S.test(8, "An INSTANCE LACKS a CLASS that is RIGHT ABOVE its own, if the GOAL of that CLASS and its HEAD is not FOUND, "
            + "or one of its NEEDS is neither a CONDITION of the INSTANCE nor of a CLASS that is ABOVE that of a CONDITION "
            + "with the same VARIABLE.", TermsTest::lacking);
    }

    private static void termsOfWhatIsSeen() {
        S.test(16, "SEEN (6 at most):", TermsTest::sixAtMost);
        S.test(16, "of an INSTANCE, of which it is not known of which KIND it is, whether that is so: "
            + "0 it is TAKEN when a plain one is MEANT, too (neither of them MORE SPECIAL), "
            + "1 it is TAKEN when no other one is MEANT, "
            + "2 it is TAKEN when a SPARE one is MEANT, too (neither MORE SPECIAL), "
            + "3 it is UNCLEAR when a plain one is MEANT, too (neither MORE SPECIAL), for it is MEANT.", TermsTest::seenIsWhatGoalsTell);
        S.test(8, "SORTS (KINDS 0 to 4) it can be of, so that all that is SEEN of it is so: as bits.", TermsTest::sortsOfAllSeen);
        S.test(8, "ASK for an INSTANCE: which of these (0 to 3) to ask next, so that fewest of these are left at worst: "
            + "of like ones the least; none, if there are none.", TermsTest::askOfAllSeen);
        S.test(18, "DRAWN by a SEED, as they would be: so many GOALS, each of a CLASS by a DRAW of how many there are, and a TYPE: "
            + "by a DRAW of 4 \"i\", \"b\", \"l\", \"p\", then the TYPES in it likewise, from the first one on, "
            + "but the TYPES in these by a DRAW of 2, \"i\" or \"b\" (each TYPE is whole ahead of the next one): "
            + "how many are FOUND; how many letters they have, all together.", TermsTest::drawnGoals);
        S.test(18, "DRAWS: the next SEED each time: 1103515245 times it and 12345, its rest by 2 to the 31; "
            + "then that by 65536 (rounded down), its rest.", TermsTest::drawsWrap);
        S.test(19, "An IMAGE keeps KINDS, SLOTS, SEEN.", TermsTest::imageKeepsThree);
    }

    private static void refusals() {
        S.test(2, REFUSALS, TermsTest::refusalsOfLetter);
        S.test(6, REFUSALS, TermsTest::refusalsOfType);
        S.test(7, REFUSALS, TermsTest::unknownAheadOfOutside);
        S.test(16, REFUSALS, TermsTest::refusalsOfSee);
        S.test(18, REFUSALS, TermsTest::refusalsOfDrawn);
        S.test(20, REFUSALS, TermsTest::refusalsChangeNothing);
    }

    // ---- types and books

    private static void typesAndNoOthers() {
        List<Set<String>> bySize = new ArrayList<>(List.of(Set.of(), Set.of("i", "b", "x", "y")));
        for (int size = 2; size <= 4; size++) {
            Set<String> types = new HashSet<>();
            bySize.get(size - 1).forEach(type -> types.add("l" + type));
            for (int first = 1; first < size - 1; first++) {
                for (String one : bySize.get(first)) {
                    bySize.get(size - 1 - first).forEach(other -> types.add("p" + one + other));
                }
            }
            bySize.add(types);
        }
        List<String> texts = List.of("");
        for (int size = 0; size <= 4; size++) {
            for (String text : texts) {
                DictProof d = Sentences.page(S.with("-;n0i"), text);
                S.due("type(0) of \"" + text + "\"", d.type(0), bySize.get(size).contains(text) ? size : STATE);
            }
            texts = longer(texts, "iblpxyz");
        }
    }

    private static List<String> longer(List<String> texts, String signs) {
        List<String> all = new ArrayList<>();
        for (String text : texts) {
            for (char sign : signs.toCharArray()) {
                all.add(text + sign);
            }
        }
        return all;
    }

    private static void allOf512Calls() {
        DictProof d = new DictProof();
        int calls = 0;
        for (char c : "-;n0i".toCharArray()) {
            calls++;
            S.due("call " + calls, d.letter(c), calls);
        }
        S.due("call 6", d.book(), 1);
        S.due("call 7", d.letter('i'), 1);
        S.due("call 8", d.type(3), 1);
        for (calls = 9; calls <= 511; calls++) {
            S.due("call " + calls, d.change(0, calls % 5), calls == 9 ? 0 : (calls - 1) % 5);
        }
        S.due("call 512", d.goal(0, 3, 0), 1);
        DictProof read = new DictProof();
        for (int book = 1; book <= 85; book++) {
            // Six calls each, and two more: 512.
            S.due("book " + book, Sentences.page(read, "-;n0i").book(), 1);
        }
        S.due("call 511", read.count(10), 85);
        S.due("call 512", read.instance(0, 2), 1);
    }

    private static void sizes() {
        DictProof d = S.with("-;n0i,n0li,n0pib,n0plib,n0lllli,n0ppixy");
        int[] heads = {1, 2, 3, 4, 5, 5};
        for (int i = 0; i <= 5; i++) {
            S.due("instance(" + i + ", 2)", d.instance(i, 2), heads[i]);
        }
        String[] types = {"x", "ly", "pib", "plib", "plili", "llllli", "pllilli", "ppibpilb", "ppppixbyi"};
        for (String type : types) {
            S.due("type(0) of " + type, Sentences.page(d, type).type(0), type.length());
        }
    }

    private static void readable(String text, int fault, int book) {
        DictProof d = Sentences.page(new DictProof(), text);
        S.due("fault() of " + text, d.fault(), fault);
        S.due("book() of " + text, d.book(), book);
    }

    private static void oneToFourClasses() {
        readable(";n0i", 0, STATE);
        readable(",-;n0i", 0, STATE);
        readable("-n0i", 1, STATE);
        readable("--;n0i", 1, STATE);
        readable("-,;n0i", 2, STATE);
        readable("-,,-;n0i", 2, STATE);
        readable("-;n0i", 5, 1);
        readable("-,-;n1i", 7, 1);
        readable("-,-,-;n2i", 9, 1);
        readable("-,-,-,-;n3i", 11, 1);
        readable("-,-,-,-,", 7, STATE);
        readable("-,-,-,-,-;n0i", 7, STATE);
        readable("-,-,-,-;n4i", 9, STATE);
        readable("-,-,-;n3i", 7, STATE);
        readable("-,-;n2i", 5, STATE);
        readable("-;n1i", 3, STATE);
    }

    private static void digitsOfLesserClasses() {
        for (int number = 0; number <= 3; number++) {
            List<String> texts = List.of("");
            for (int size = 1; size <= 3; size++) {
                texts = longer(texts, "-0123");
                for (String text : texts) {
                    DictProof d = Sentences.page(new DictProof(), "-,".repeat(number) + text + ";n0i");
                    int bits = bitsRightAbove(number, text);
                    S.due("book() with class " + number + " as " + text, d.book(), bits < 0 ? STATE : 1);
                    S.due("right above " + number + " as " + text, d.about(number, 0), bits < 0 ? UNKNOWN : bits);
                }
            }
        }
        readable("0;n0i", 0, STATE);
        readable("-,1;n0i", 2, STATE);
        readable("-,00;n0i", 3, STATE);
        readable("-,-,10;n0i", 5, STATE);
        readable("-,-,2;n0i", 4, STATE);
        readable("-,-,-,012;n0i", 8, STATE);
        readable("-,-,-,0-;n0i", 7, STATE);
        readable("-,-,-,-0;n0i", 7, STATE);
        readable("-,-,-,4;n0i", 6, STATE);
        readable("-,-,-,/;n0i", 6, STATE);
    }

    /** The classes that a text tells as those right above a class, as bits; NONE, if it is not as told. */
    private static int bitsRightAbove(int number, String text) {
        if (text.equals("-")) {
            return 0;
        }
        int first = text.charAt(0) - '0';
        int second = text.length() < 2 ? first : text.charAt(1) - '0';
        boolean rising = text.length() == 1 || text.length() == 2 && first < second;
        return first >= 0 && second >= 0 && rising && second < number ? 1 << first | 1 << second : NONE;
    }

    private static void oneToSixInstances() {
        readable("-;", 2, STATE);
        readable("-;,", 2, STATE);
        readable("-;;", 2, STATE);
        String text = "-;n0i";
        for (int many = 1; many <= 6; many++) {
            readable(text, text.length(), many);
            readable(text + ";", text.length(), STATE);
            readable(text + "n0i", text.length(), STATE);
            readable(text + ",", many < 6 ? text.length() + 1 : text.length(), STATE);
            readable(text + ",,", many < 6 ? text.length() + 1 : text.length(), STATE);
            text += ",n0i";
        }
        readable(text, text.length() - 4, STATE);
    }

    private static void kindClassHead() {
        for (int code = 32; code <= 126; code++) {
            String sign = String.valueOf((char) code);
            boolean kind = KIND_LETTERS.contains(sign);
            readable("-;" + sign + "0i", kind ? 5 : 2, kind ? 1 : STATE);
            for (int classes = 1; classes <= 4; classes++) {
                String text = "-" + ",-".repeat(classes - 1) + ";n";
                boolean digit = code >= '0' && code < '0' + classes;
                readable(text + sign + "i", digit ? text.length() + 2 : text.length(), digit ? 1 : STATE);
            }
            boolean begins = "iblpxy".contains(sign);
            S.due("fault() with " + sign + " for a head", Sentences.page(new DictProof(), "-;n0" + sign).fault(), begins ? 5 : 4);
        }
        for (String head : new String[] {"i", "li", "pib", "plib", "lllli", "ppxyx", "pxpyx", "llpib"}) {
            readable("-;n0" + head, 4 + head.length(), 1);
        }
        readable("-;n0llllli", 8, STATE);
        readable("-;n0lppxyx", 6, STATE);
        readable("-;n0ppxyxx", 9, STATE);
    }

    private static void noneToTwoConditions() {
        readable("-;n0x", 5, 1);
        readable("-;n0x0", 6, STATE);
        readable("-;n0x0x", 7, 1);
        readable("-;n0x0x0", 8, STATE);
        readable("-;n0x0x0x", 9, 1);
        readable("-;n0x0x0x0", 9, STATE);
        readable("-;n0x0x0x0x", 9, STATE);
        readable("-;n0y0x", 6, STATE);
        readable("-;n0y0y", 7, 1);
        readable("-;n0x0y", 6, STATE);
        readable("-;n0pxy0y0x", 11, 1);
        readable("-;n0pxx0x0y", 10, STATE);
        readable("-;n0i0x", 5, STATE);
        readable("-;n0pib0x", 7, STATE);
        readable("-;n0x1x", 5, STATE);
        readable("-,-;n0x1x", 9, 1);
        readable("-,-;n0x2x", 7, STATE);
        readable("-,-,-,-;n0x3x", 13, 1);
        readable("-,-,-,-;n0x4x", 11, STATE);
        for (int code = 32; code <= 126; code++) {
            String sign = String.valueOf((char) code);
            int digit = code == '0' || code == '1' || code == ',' ? 9 : 8;
            S.due("fault() with " + sign + " behind a head", Sentences.page(new DictProof(), "-,-;n0lx" + sign).fault(), digit);
            int variable = code == 'x' ? 10 : 9;
            S.due("fault() with " + sign + " for a variable", Sentences.page(new DictProof(), "-,-;n0lx1" + sign).fault(), variable);
        }
        DictProof d = S.with(LARGEST);
        for (int i = 0; i <= 5; i++) {
            S.due("conditions of " + i, d.instance(i, 3), 2);
        }
    }

    private static void noBookAtFirst() {
        DictProof d = new DictProof();
        S.due("classes", d.count(0), 0);
        S.due("instances", d.count(1), 0);
        S.due("read", d.count(10), 0);
        S.refused(Sentences.page(d, "i"), "type(0)", STATE, () -> d.type(0));
        S.refused(d, "about(0, 0)", UNKNOWN, () -> d.about(0, 0));
        S.refused(d, "instance(0, 0)", UNKNOWN, () -> d.instance(0, 0));
    }

    private static void kindsByLetter() {
        for (int kind = 0; kind <= 4; kind++) {
            DictProof d = S.with("-;n0i," + KIND_LETTERS.charAt(kind) + "0i");
            S.due("kind by " + KIND_LETTERS.charAt(kind), d.instance(1, 0), kind);
            S.due("change(1, 0)", d.change(1, 0), kind);
        }
    }

    private static void soleIsFirst() {
        DictProof d = S.with("-;n0i,d0i,h0i,f0i,s0i");
        for (int i = 0; i <= 4; i++) {
            S.due("as(" + i + ", 0)", d.as(i, 0), i);
            S.due("as(" + i + ", 3)", d.as(i, 3), i >= 3 ? i : NONE);
            S.due("as(" + i + ", 4)", d.as(i, 4), i == 4 ? i : NONE);
        }
    }

    private static void aboutAbove(String book, int... want) {
        DictProof d = S.with(book);
        for (int number = 0; number < want.length; number++) {
            S.due("about(" + number + ", 1) of " + book, d.about(number, 1), want[number]);
        }
    }

    private static void above() {
        aboutAbove("-,-,-,-;n0i", 0, 0, 0, 0);
        aboutAbove("-,0,1,2;n0i", 0, 1, 3, 7);
        aboutAbove("-,0,0,12;n0i", 0, 1, 1, 7);
        aboutAbove("-,-,1,2;n0i", 0, 0, 2, 6);
        aboutAbove("-,-,-,01;n0i", 0, 0, 0, 3);
        aboutAbove("-,0,-,2;n0i", 0, 1, 0, 4);
        aboutAbove("-,-,01,2;n0i", 0, 0, 3, 7);
        aboutAbove("-,0,01,12;n0i", 0, 1, 3, 7);
    }

    private static void fit(String head, String type, int want) {
        S.due(head + " fits " + type, S.with("-;n0" + head, type).fits(0, 0), want);
    }

    private static void fitting() {
        fit("x", "i", 1);
        fit("x", "ppppiiiii", 1);
        fit("x", "y", 1);
        fit("x", "x", 1);
        fit("i", "x", 0);
        fit("li", "lx", 0);
        fit("lllli", "llli", 0);
        fit("lllli", "lllli", 1);
        fit("lllli", "llllb", 0);
        fit("llllx", "lllllllli", 1);
        fit("llllx", "lllx", 0);
        fit("pxx", "pxx", 1);
        fit("pxx", "pyy", 1);
        fit("pxx", "pxy", 0);
        fit("pxy", "pyx", 1);
        fit("pxy", "pii", 1);
        fit("pxx", "plllilllb", 0);
        fit("pxx", "plllillli", 1);
        fit("pxx", "plili", 1);
        fit("pxx", "plilli", 0);
        fit("ppxyx", "pplibli", 1);
        fit("ppxyx", "pplilii", 0);
        fit("pxpxx", "pipib", 0);
        fit("pxpxx", "pipii", 1);
        fit("lx", "lx", 1);
        fit("pxlx", "pxlx", 1);
        fit("pxlx", "plxlx", 0);
        fit("pxlx", "plxllx", 1);
    }

    private static void special(String one, String other, int first, int second) {
        DictProof d = S.with("-;n0" + one + ",n0" + other);
        S.due(one + " more special than " + other, d.pair(0, 1, 2), first);
        S.due(other + " more special than " + one, d.pair(1, 0, 2), second);
    }

    private static void moreSpecial() {
        special("i", "i", 0, 0);
        special("i", "b", 0, 0);
        special("x", "x", 0, 0);
        special("x", "y", 0, 0);
        special("i", "x", 1, 0);
        special("lllli", "x", 1, 0);
        special("lllli", "llllx", 1, 0);
        special("pxy", "pyx", 0, 0);
        special("pxx", "pyy", 0, 0);
        special("pxx", "pxy", 1, 0);
        special("pix", "pxi", 0, 0);
        special("pii", "pxi", 1, 0);
        special("pxlx", "pxy", 1, 0);
        special("ppxyx", "ppyxy", 0, 0);
        special("ppxyx", "pxy", 1, 0);
        special("ppxxx", "ppxyx", 1, 0);
    }

    private static void sound() {
        DictProof d = S.with("-;n0x,n0y0y,n0x0x0x,n0lx0x0x,n0i,n0pxy0y");
        int[] want = {1, 0, 0, 1, 1, 1};
        for (int i = 0; i <= 5; i++) {
            S.due("instance(" + i + ", 4)", d.instance(i, 4), want[i]);
        }
        S.due("not sound", d.count(2), 2);
        d.change(1, 4);
        S.due("of another kind", d.instance(1, 4), 0);
    }

    // ---- goals

    private static void goalIsClassAndType() {
        DictProof d = S.with("-,-;n0i,n1b", "i", "b");
        S.due("class 0, i", d.goal(0, 0, 0), 1);
        S.due("class 0, b", d.goal(0, 1, 0), 0);
        S.due("class 1, i", d.goal(1, 0, 0), 0);
        S.due("class 1, b", d.goal(1, 1, 0), 1);
    }

    /** The goal of class 0 and a type: FOUND by an instance (its number), or UNCLEAR; NONE: STUCK. */
    private static void taken(String instances, String type, int want) {
        DictProof d = S.with("-,-;" + instances, type);
        String goal = type + " by " + instances;
        int outcome = want < 0 ? want : 1;
        S.due("goal of " + goal, d.goal(0, 0, 0), want == NONE ? 0 : outcome);
        S.due("taken for " + goal, d.entry(0, 0, 0), want < 0 ? UNKNOWN : want);
    }

    private static void variableIsNeed() {
        taken("n1i", "x", 10);
        taken("n1i", "y", 11);
        taken("n0x", "x", 10);
        taken("n0x,n0y", "y", 11);
        taken("s0x,s0y", "x", 10);
        DictProof d = S.with("-,-,-,-;n0i", "x", "y");
        S.due("the last class", d.entry(3, 0, 0), 16);
        S.due("the last class", d.entry(3, 1, 0), 17);
    }

    private static void meant() {
        taken("n1i", "i", NONE);
        taken("n1x,n0i", "i", 1);
        taken("n0x0x", "i", NONE);
        taken("n0x0x,n0y", "i", 1);
        taken("s0x0x,n0y", "i", 1);
        taken("h0i", "i", NONE);
        taken("h0i,n0x", "i", 1);
        taken("h0i,s0x", "i", 1);
        taken("n0b", "i", NONE);
        taken("n0b,s0i", "i", 1);
        taken("n0i", "lx", NONE);
        taken("n0li", "lx", NONE);
    }

    private static void stuck() {
        taken("n0b", "i", NONE);
        taken("h0x,n0x0x,n1x", "lllllllli", NONE);
        taken("n0lx", "i", NONE);
        taken("n0pxx", "pxy", NONE);
        DictProof d = S.with("-;n0i", "i");
        S.due("found", d.goal(0, 0, 0), 1);
        d.change(0, 2);
        S.due("stuck", d.goal(0, 0, 0), 0);
    }

    private static void soleAmongOthers() {
        taken("s0i", "i", 0);
        taken("s0i,n0x", "i", UNCLEAR);
        taken("n0x,s0i", "i", UNCLEAR);
        taken("s0i,d0x", "i", UNCLEAR);
        taken("s0i,f0x", "i", UNCLEAR);
        taken("s0i,s0x", "i", UNCLEAR);
        taken("s0x,f0i,n0x", "i", UNCLEAR);
        taken("s0i,h0x", "i", 0);
        taken("s0i,n0x0x", "i", 0);
        taken("s0i,n1x", "i", 0);
        taken("s0i,n0b", "i", 0);
    }

    private static void groups() {
        taken("f0x,n0i,d0i", "i", 0);
        taken("d0i,n0x,f0y", "i", 2);
        taken("n0x,d0i", "i", 0);
        taken("d0i,d0x,n0y", "i", 2);
        taken("d0x", "i", 0);
        taken("d0x,d0i", "i", 1);
        taken("f0i,f0x,n0i", "i", 0);
        taken("f0x,f0y,n0i", "i", UNCLEAR);
        taken("n0x,n0y,d0i", "i", UNCLEAR);
        taken("d0x,d0y", "i", UNCLEAR);
    }

    private static void oneAlone() {
        for (char kind : "ndfs".toCharArray()) {
            taken(kind + "0i", "i", 0);
            taken(kind + "0x", "lllllllli", 0);
            taken("n1i,h0i,n0b,n0x0x,n1x," + kind + "0x", "i", 5);
        }
    }

    private static void mostSpecial() {
        taken("n0x,n0lx,n0llx,n0lllx,n0llllx,n0lllli", "lllli", 5);
        taken("n0lllli,n0llllx,n0lllx,n0llx,n0lx,n0x", "lllli", 0);
        taken("n0x,n0lx,n0llx,n0lllx,n0llllx,n0lllli", "lllllllli", 4);
        taken("n0x,n0pix,n0pxi", "pii", UNCLEAR);
        taken("n0x,n0pix,n0pxi,n0pii", "pii", 3);
        taken("n0x,n0pix,n0pxi,n0pxx", "pii", UNCLEAR);
        taken("n0pxy,n0pyx", "pib", UNCLEAR);
        taken("n0pxx,n0pyy,n0pxy", "pii", UNCLEAR);
        taken("n0i,n0i", "i", UNCLEAR);
        taken("n0i,n0i,n0x", "i", UNCLEAR);
    }

    private static void conditionsAreGoals() {
        DictProof d = S.with("-,-;n0pxy1x0y,n1i,n0b,n0i,n1b", "pib", "pbi", "pxy");
        int[][] want = {{0, 1, 2}, {0, 4, 3}, {0, 12, 11}};
        for (int slot = 0; slot <= 2; slot++) {
            for (int place = 0; place <= 2; place++) {
                S.due("entry(0, " + slot + ", " + place + ")", d.entry(0, slot, place), want[slot][place]);
            }
        }
        DictProof large = S.with("-;n0lx0x,n0i", "lllllllli");
        for (int place = 0; place <= 8; place++) {
            S.due("smaller and smaller", large.entry(0, 0, place), place == 8 ? 1 : 0);
        }
    }

    private static void asTheFirstNotFound() {
        // "i" is UNCLEAR, "b" is STUCK, "li" is FOUND.
        String book = "-;n0i,n0i,n0li,n0pxy0x0y,n0llx0x";
        String[] types = {"plili", "pib", "pbi", "plib", "plii", "pbli", "pili", "ppibi", "ppbib", "llb", "lli", "lllli"};
        int[] want = {1, -2, 0, 0, -2, 0, -2, -2, 0, 0, -2, -2};
        for (int i = 0; i < types.length; i++) {
            S.due("goal of " + types[i], S.with(book, types[i]).goal(0, 0, 0), want[i]);
        }
        S.due("the other order", S.with("-;n0i,n0i,n0pxy0y0x", "pib").goal(0, 0, 0), 0);
    }

    // ---- dictionaries

    private static void row(DictProof d, int number, int slot, int... want) {
        for (int place = 0; place < want.length; place++) {
            S.due("entry(" + number + ", " + slot + ", " + place + ")", d.entry(number, slot, place), want[place]);
        }
        S.due("how many", d.goal(number, slot, 1), want.length);
        S.due("entry behind the last", d.entry(number, slot, want.length), UNKNOWN);
    }

    private static void dictionaries() {
        DictProof d = S.with("-,-,-,-;n0pxy3y0x,n3lx3x0x,n0b,n0b,n3b,n0i", "pily", "x", "y", "i");
        row(d, 0, 0, 0, 1, 17, 11, 5);
        row(d, 0, 1, 10);
        row(d, 3, 2, 17);
        row(d, 2, 1, 14);
        row(d, 0, 3, 5);
    }

    private static void worthByRest() {
        DictProof d = S.with("-,-,-,-;n0pxy0x0y,n0pxx,n0lx0x,n0b,n0b,n0i", "x", "y", "i", "lllllllli");
        S.due("the least need", d.goal(0, 0, 2), 10);
        S.due("the greatest need", d.goal(3, 1, 2), 17);
        S.due("no condition", d.goal(0, 2, 2), 42);
        // 42, then each time 21 and twice: 105, 231, 483, 987, 1995 - 1009 = 986, 1993 - 1009 = 984, 980, 972.
        S.due("one condition", d.goal(0, 3, 2), 972);
        S.put(d, 2, "llllli");
        S.due("one condition", d.goal(0, 2, 2), 986);
        S.put(d, 2, "lllli");
        S.due("not above it", d.goal(0, 2, 2), 987);
        S.put(d, 2, "pxi");
        S.due("two conditions", d.goal(0, 2, 2), 7 + 20 + 126);
        S.put(d, 2, "pix");
        S.due("in order", d.goal(0, 2, 2), 7 + 84 + 30);
        S.due("rest 0", S.with("-;n0i,n0lx0x0x,n0pxy0x0y", "lppxyx").goal(0, 0, 2), 0);
    }

    private static void needsOnce() {
        DictProof d = S.with("-,-;n0lx0x0x,n1lx0x1x,n0pxy0x0y,n0i", "llllllllx", "pxx", "i", "lb");
        S.due("256 times, once", d.goal(0, 0, 5), 1);
        S.due("two classes", d.goal(1, 0, 5), 2);
        S.due("twice, once", d.goal(0, 1, 5), 1);
        S.due("none", d.goal(0, 2, 5), 0);
        S.due("not found", d.goal(0, 3, 5), NONE);
        S.due("need(0, 0, 0, 0)", d.need(0, 0, 0, 0), 2);
        S.due("need(0, 0, 0, 1)", d.need(0, 0, 0, 1), 0);
        S.due("need(1, 0, 1, 0)", d.need(1, 0, 1, 0), 2);
        S.due("need(0, 2, 0, 0)", d.need(0, 2, 0, 0), 0);
        S.due("need(0, 3, 0, 0)", d.need(0, 3, 0, 0), 0);
    }

    private static void plainNeeds() {
        DictProof d = S.with("-,0,1,-;n0pxy0x2y,n1pxy0x2x,n2pxy0x3x,n3pxy1x1y", "pxy", "pxx", "x");
        int[][] want = {{2, 2}, {2, 1}, {2, 2}, {2, 2}};
        for (int number = 0; number <= 3; number++) {
            S.due("needs of class " + number, d.goal(number, 0, 5), want[number][0]);
            S.due("plain needs of class " + number, d.goal(number, 0, 6), want[number][1]);
        }
        S.due("the same variable", d.goal(0, 1, 6), 1);
        S.due("far above", d.need(0, 1, 0, 0), 1);
        S.due("below it", d.need(0, 1, 2, 0), 2);
        S.due("of another variable", d.need(0, 0, 0, 0), 2);
        S.due("of another variable", d.need(0, 0, 2, 1), 2);
        S.due("it is none below itself", d.need(0, 2, 0, 0), 2);
        for (String classes : new String[] {"-,-,-,-", "-,0,1,2", "-,0,0,12", "-,-,1,2", "-,-,0,1", "-,-,0,-", "-,0,-,2"}) {
            for (int two = 0; two < 64; two++) {
                plainOfTwo(classes, two / 8, two % 8);
            }
        }
    }

    /** Two needs, each as twice its class and its variable: one is plain, unless the other is below it. */
    private static void plainOfTwo(String classes, int one, int other) {
        String conditions = "" + one / 2 + "xy".charAt(one % 2) + other / 2 + "xy".charAt(other % 2);
        String book = classes + ";n0pxy" + conditions;
        DictProof d = S.with(book, "pxy");
        boolean alike = one % 2 == other % 2;
        boolean firstAbove = alike && (d.about(other / 2, 1) >> one / 2 & 1) == 1;
        boolean otherAbove = alike && (d.about(one / 2, 1) >> other / 2 & 1) == 1;
        S.due("need " + one + " of " + book, d.need(0, 0, one / 2, one % 2), firstAbove ? 1 : 2);
        S.due("need " + other + " of " + book, d.need(0, 0, other / 2, other % 2), otherAbove ? 1 : 2);
        S.due("needs of " + book, d.goal(0, 0, 5), one == other ? 1 : 2);
        S.due("plain needs of " + book, d.goal(0, 0, 6), one == other || firstAbove || otherAbove ? 1 : 2);
    }

    private static void both(String one, String other, int overlap, int clash) {
        DictProof d = S.with("-,-;" + one + "," + other);
        S.due("overlap of " + one + " and " + other, d.pair(0, 1, 0), overlap);
        S.due("overlap of " + other + " and " + one, d.pair(1, 0, 0), overlap);
        S.due("clash of " + one + " and " + other, d.pair(0, 1, 1), clash);
        S.due("clash of " + other + " and " + one, d.pair(1, 0, 1), clash);
        S.due("pairs that overlap", d.count(3), overlap);
        S.due("pairs that clash", d.count(4), clash);
    }

    private static void overlapping() {
        both("n0i", "n1i", 0, 0);
        both("h0i", "n0i", 0, 0);
        both("n0i", "h0i", 0, 0);
        both("h0i", "h0i", 0, 0);
        both("n0i", "n0i", 1, 1);
        both("n0i", "n0b", 0, 0);
        both("n0lllli", "n0llllb", 0, 0);
        both("n0x", "n0x", 1, 1);
        // A variable of one head is no variable of the other one, though it has the same letter.
        both("n0pxi", "n0pbx", 1, 1);
        both("n0lx", "n0x", 1, 0);
        // Only a type that is in itself would fit.
        both("n0pxx", "n0pxlx", 0, 0);
        both("n0pxx", "n0pylx", 1, 1);
        both("n0pxx", "n0pyy", 1, 1);
        both("n0plxlx", "n0pyy", 1, 0);
        both("n0ppxyx", "n0pxpxy", 0, 0);
        both("n0pxpxx", "n0pyy", 0, 0);
        both("n0ppxxx", "n0pypyy", 0, 0);
        both("n0pxpyx", "n0ppxyx", 0, 0);
        both("n0ppxyx", "n0pxpyy", 1, 1);
        both("n0x0x", "n0i", 1, 0);
        overlappingOfSix("ppxyx", "pxlx", "plxlx", "pyy", "pxpyx", "plxy");
        overlappingOfSix("x", "lllli", "lx", "llllb", "llx", "i");
        overlappingOfSix("pxpxx", "pyy", "ppxxx", "pxy", "pib", "pipii");
    }

    /** Whether two overlap does not hang on the others. */
    private static void overlappingOfSix(String... heads) {
        DictProof d = S.with("-;n0" + String.join(",n0", heads));
        int many = 0;
        for (int one = 0; one <= 5; one++) {
            for (int other = one + 1; other <= 5; other++) {
                int alone = S.with("-;n0" + heads[one] + ",n0" + heads[other]).pair(0, 1, 0);
                S.due("pair of " + heads[one] + " and " + heads[other], d.pair(one, other, 0), alone);
                S.due("pair of " + heads[other] + " and " + heads[one], d.pair(other, one, 0), alone);
                many += alone;
            }
        }
        S.due("pairs that overlap", d.count(3), many);
    }

    private static void clashing() {
        both("n0i", "n0x", 1, 0);
        both("s0i", "n0x", 1, 1);
        both("n0i", "s0x", 1, 1);
        both("s0i", "s0x", 1, 1);
        both("f0i", "f0x", 1, 0);
        both("d0i", "n0x", 1, 0);
        both("f0i", "d0i", 1, 1);
        both("n0pix", "n0pxi", 1, 1);
        both("s0i", "n0b", 0, 0);
        both("s0i", "h0i", 0, 0);
        both("s0i", "n1i", 0, 0);
    }

    private static void lacks(String book, int instance, int want) {
        S.due("lacked by " + instance + " of " + book, S.with(book).instance(instance, 7), want);
    }

    private static void lacking() {
        lacks("-;n0i", 0, 0);
        lacks("-,-;n1i", 0, 0);
        lacks("-,0;n1i,n0i", 0, 0);
        lacks("-,0;n1i,n0b", 0, 1);
        lacks("-,0;n1i,n0i,n0x,s0y", 0, 1);
        lacks("-,0,1;n2i,n1i", 0, 0);
        lacks("-,0,1;n2i,n0i", 0, 2);
        lacks("-,-,01;n2i", 0, 3);
        lacks("-,-,-,12;n3i,n0i", 0, 6);
        lacks("-,0;n1lx,n0lx0x", 0, 1);
        lacks("-,0;n1lx0x,n0lx0x", 0, 0);
        lacks("-,0;n1lx1x,n0lx0x", 0, 0);
        lacks("-,0,1,2;n3lx3x,n2lx0x", 0, 0);
        lacks("-,0,0;n2lx0x,n0lx1x", 0, 1);
        lacks("-,0;n1pxy0x,n0pxy0y", 0, 1);
        lacks("-,0;n1pxy0y1x,n0pxy0y0x", 0, 0);
        lacks("-,0;n1pxy0y,n0pxy0y0x", 0, 1);
        lacks("-,0;n1x", 0, 1);
        lacks("-,0;n1x0x", 0, 0);
        lacks("-,0;n1x,n0x", 0, 1);
        lacks("-,0;h1i", 0, 1);
    }

    // ---- what is seen

    private static void sixAtMost() {
        DictProof d = S.with("-;n0i,n0i,n0i,n0i,n0i,n0i");
        for (int i = 0; i <= 5; i++) {
            S.due("see(" + i + ", 1, false)", d.see(i, 1, false), i + 1);
        }
        for (int i = 0; i <= 5; i++) {
            int one = i;
            S.refused(d, "see(" + i + ", 1, false)", FULL, () -> d.see(one, 1, false));
            S.due("sorts of " + i, d.instance(i, 5), 4);
        }
        S.due("seen", d.count(8), 6);
    }

    /** Of which kinds, as bits, it is so, as goals tell it: heads of which neither is more special. */
    private static int kindsBySight(int what) {
        String[] others = {",n0piy", "", ",d0piy", ",n0piy"};
        int kinds = 0;
        for (int kind = 0; kind <= 4; kind++) {
            DictProof d = S.with("-;" + KIND_LETTERS.charAt(kind) + "0pxi" + others[what], "pii");
            boolean so = what == 3 ? d.goal(0, 0, 0) == UNCLEAR : d.entry(0, 0, 0) == 0;
            kinds |= so ? 1 << kind : 0;
        }
        return kinds;
    }

    private static void seenIsWhatGoalsTell() {
        int[] want = {8, 27, 9, 17};
        for (int what = 0; what <= 3; what++) {
            S.due("as goals tell it, " + what, kindsBySight(what), want[what]);
            DictProof d = S.with("-;n0i");
            d.see(0, what, true);
            S.due("sorts, so " + what, d.instance(0, 5), want[what]);
            d.forget();
            d.see(0, what, false);
            S.due("sorts, not so " + what, d.instance(0, 5), 31 - want[what]);
        }
    }

    /** All that can be seen of an instance in three calls, with the sorts that are left and what to ask. */
    private static void seeAll(BiPredicate<DictProof, Integer> asDue) {
        int[] so = {kindsBySight(0), kindsBySight(1), kindsBySight(2), kindsBySight(3)};
        for (int row = 0; row < 512; row++) {
            DictProof d = S.with("-;n0i,s0b");
            int sorts = 31;
            for (int step = 0; step < 3; step++) {
                int seen = row >> 3 * step & 7;
                d.see(1, seen >> 1, (seen & 1) == 1);
                sorts &= (seen & 1) == 1 ? so[seen >> 1] : ~so[seen >> 1];
                S.due("row " + row + ", step " + step + " is as due", asDue.test(d, sorts) ? 1 : 0, 1);
            }
        }
    }

    private static void sortsOfAllSeen() {
        seeAll((d, sorts) -> d.instance(1, 5) == sorts && d.instance(0, 5) == 31);
    }

    private static void askOfAllSeen() {
        S.due("ask of all", S.with("-;n0i").instance(0, 6), 2);
        int[] so = {kindsBySight(0), kindsBySight(1), kindsBySight(2), kindsBySight(3)};
        seeAll((d, sorts) -> {
            int best = sorts == 0 ? NONE : 0;
            for (int what = 1; what <= 3 && sorts != 0; what++) {
                best = atWorst(sorts, so[what]) < atWorst(sorts, so[best]) ? what : best;
            }
            return d.instance(1, 6) == best;
        });
    }

    private static int atWorst(int sorts, int so) {
        return Math.max(Integer.bitCount(sorts & so), Integer.bitCount(sorts & ~so));
    }

    private static void drawnAsDue(String book, int classes, BiPredicate<Integer, String> found) {
        for (int seed : new int[] {0, 1, 2, 3, 12345, 1 << 30, Sentences.MAX}) {
            Draws draws = new Draws(seed);
            DictProof d = S.with(book, "lli");
            int many = 0;
            int letters = 0;
            for (int times = 1; times <= 30; times++) {
                int number = draws.draw(classes);
                String type = draws.type(0);
                many += found.test(number, type) ? 1 : 0;
                letters += type.length();
                String call = "drawn(" + times + ", " + seed + ", ";
                S.due(call + "0) of " + book, d.drawn(times, seed, 0), many);
                S.due(call + "1) of " + book, d.drawn(times, seed, 1), letters);
            }
            S.due("slots stay", d.count(6), 1);
        }
    }

    private static void drawnGoals() {
        drawnAsDue("-;n0i", 1, (number, type) -> type.equals("i"));
        drawnAsDue("-;n0lx", 1, (number, type) -> type.startsWith("l"));
        drawnAsDue("-,-;n1pxy", 2, (number, type) -> number == 1 && type.startsWith("p"));
        drawnAsDue("-,-,-;n2x,n0pxx", 3, (number, type) -> number == 2 || number == 0 && isTwice(type));
        drawnAsDue("-,-,-,-;n3llx,h0x,n1x0x", 4, (number, type) -> number == 3 && type.startsWith("ll"));
        drawnAsDue("-;n0i,n0lx0x,n0pxy0x0y", 1, (number, type) -> !type.contains("b"));
        // All that is drawn ends by "i" or "b", so that each of these is found.
        drawnAsDue("-;n0i,n0b,n0lx0x,n0pxy0x0y", 1, (number, type) -> true);
    }

    private static boolean isTwice(String type) {
        int half = type.length() / 2;
        return type.startsWith("p") && type.substring(1, 1 + half).equals(type.substring(1 + half));
    }

    private static void drawsWrap() {
        // Of seed 0: 12345 (0, class 0), then 1406932606 (21468, rest by 4: 0, "i").
        DictProof d = S.with("-;n0i");
        S.due("drawn(1, 0, 0)", d.drawn(1, 0, 0), 1);
        S.due("drawn(1, 0, 2)", d.drawn(1, 0, 2), 1406932606);
        for (int seed : new int[] {0, 1, 65535, 65536, 1 << 30, Sentences.MAX - 1, Sentences.MAX}) {
            Draws draws = new Draws(seed);
            for (int times = 1; times <= 30; times++) {
                draws.draw(1);
                draws.type(0);
                int then = d.drawn(times, seed, 2);
                S.due("drawn(" + times + ", " + seed + ", 2)", then, draws.seed());
                S.due("0 at least", then >= 0 ? 1 : 0, 1);
            }
        }
        int most = d.drawn(1, Sentences.MAX, 2);
        S.due("it goes on from there", d.drawn(2, Sentences.MAX, 2), d.drawn(1, most, 2));
    }

    private static void imageKeepsThree() {
        DictProof d = S.with("-,0;n0i,d1lx1x,h0x", "i", "", "lli", "");
        d.change(2, 4);
        d.see(1, 2, true);
        S.due("image()", d.image(), 2);
        long kept = d.digest();
        d.change(2, 0);
        d.change(0, 2);
        d.see(0, 0, false);
        S.put(d, 0, "b");
        S.put(d, 1, "b");
        S.put(d, 3, "b");
        Sentences.page(d, "li");
        S.due("restore()", d.restore(), 2);
        S.due("THE PAGE is not kept", d.type(3), 2);
        S.due("restore()", d.restore(), 2);
        S.due("digest()", d.digest(), kept);
        S.due("kind", d.instance(2, 0), 4);
        S.due("kind", d.instance(0, 0), 0);
        S.due("slot 0", d.fits(0, 0), 1);
        S.due("slot 1", d.fits(0, 1), UNKNOWN);
        S.due("slot 2", d.fits(1, 2), 1);
        S.due("slot 3", d.fits(0, 3), UNKNOWN);
        S.due("sorts", d.instance(1, 5), 9);
        S.due("sorts", d.instance(0, 5), 31);
        S.due("seen", d.count(8), 1);
        for (String over : new String[] {"i", "lllllllli", "ppppiiiii", "pipipipii"}) {
            // What is told of the types in a type must come back with it.
            DictProof whole = S.with("-,-;n0pxx,n0pxy1x0y,n1lx0x,n0i,n0b,n0lx0x", "plili", "pplibplib", "pplibx", "llpxx");
            long before = whole.digest();
            S.due("image()", whole.image(), 4);
            for (int slot = 0; slot <= 3; slot++) {
                S.put(whole, slot, over);
            }
            S.due("restore()", whole.restore(), 4);
            S.due("digest() behind " + over, whole.digest(), before);
            int[] fits = {1, 1, 0, 0};
            for (int slot = 0; slot <= 3; slot++) {
                S.due("fits(0, " + slot + ") behind " + over, whole.fits(0, slot), fits[slot]);
            }
        }
    }

    // ---- refusals: of several the first one

    private static void refusalsOfLetter() {
        DictProof d = Sentences.page(new DictProof(), "z".repeat(84));
        S.refused(d, "letter(31), and full", OUTSIDE, () -> d.letter(31));
        S.refused(d, "letter(127), and full", OUTSIDE, () -> d.letter(127));
        S.refused(d, "letter(32), full", FULL, () -> d.letter(32));
        S.refused(d, "letter(126), full", FULL, () -> d.letter(126));
    }

    private static void refusalsOfType() {
        DictProof none = Sentences.page(new DictProof(), "llllllllli");
        S.refused(none, "type(4), no book, 10 letters", UNKNOWN, () -> none.type(4));
        S.refused(none, "type(3), no book, 10 letters", STATE, () -> none.type(3));
        DictProof d = Sentences.page(S.with("-;n0i"), "llllllllli");
        S.refused(d, "type(-1), 10 letters", UNKNOWN, () -> d.type(-1));
        S.refused(d, "type(0), 10 letters", FULL, () -> d.type(0));
        d.letter('i');
        S.refused(d, "type(4), no type of 11 letters", UNKNOWN, () -> d.type(4));
        S.refused(d, "type(0), no type of 11 letters", STATE, () -> d.type(0));
    }

    private static void unknownAheadOfOutside() {
        DictProof d = S.with("-;n0i,n0b", "i");
        S.refused(d, "about(1, 3)", UNKNOWN, () -> d.about(1, 3));
        S.refused(d, "about(0, 3)", OUTSIDE, () -> d.about(0, 3));
        S.refused(d, "instance(2, 8)", UNKNOWN, () -> d.instance(2, 8));
        S.refused(d, "instance(1, 8)", OUTSIDE, () -> d.instance(1, 8));
        S.refused(d, "as(2, 5)", UNKNOWN, () -> d.as(2, 5));
        S.refused(d, "as(1, 5)", OUTSIDE, () -> d.as(1, 5));
        S.refused(d, "change(2, 5)", UNKNOWN, () -> d.change(2, 5));
        S.refused(d, "change(1, 5)", OUTSIDE, () -> d.change(1, 5));
        S.refused(d, "pair(2, 0, 3)", UNKNOWN, () -> d.pair(2, 0, 3));
        S.refused(d, "pair(0, 2, 3)", UNKNOWN, () -> d.pair(0, 2, 3));
        S.refused(d, "pair(1, 1, 3)", UNKNOWN, () -> d.pair(1, 1, 3));
        S.refused(d, "pair(1, 0, 3)", OUTSIDE, () -> d.pair(1, 0, 3));
        S.refused(d, "goal(1, 0, 7)", UNKNOWN, () -> d.goal(1, 0, 7));
        S.refused(d, "goal(0, 1, 7)", UNKNOWN, () -> d.goal(0, 1, 7));
        S.refused(d, "goal(0, 0, 7)", OUTSIDE, () -> d.goal(0, 0, 7));
        S.refused(d, "need(1, 0, 1, 2)", UNKNOWN, () -> d.need(1, 0, 1, 2));
        S.refused(d, "need(0, 1, 1, 2)", UNKNOWN, () -> d.need(0, 1, 1, 2));
        S.refused(d, "need(0, 0, 1, 2)", OUTSIDE, () -> d.need(0, 0, 1, 2));
    }

    private static void refusalsOfSee() {
        DictProof d = S.with("-;n0i");
        S.refused(d, "see(1, 4, true)", UNKNOWN, () -> d.see(1, 4, true));
        for (int i = 0; i < 6; i++) {
            d.see(0, 1, true);
        }
        S.refused(d, "see(1, 4, true), full", UNKNOWN, () -> d.see(1, 4, true));
        S.refused(d, "see(1, 0, true), full", UNKNOWN, () -> d.see(1, 0, true));
        S.refused(d, "see(0, 4, true), full", OUTSIDE, () -> d.see(0, 4, true));
        S.refused(d, "see(0, 0, true), full", FULL, () -> d.see(0, 0, true));
    }

    private static void refusalsOfDrawn() {
        DictProof none = new DictProof();
        S.refused(none, "drawn(0, 0, 0), no book", OUTSIDE, () -> none.drawn(0, 0, 0));
        S.refused(none, "drawn(1, -1, 0), no book", OUTSIDE, () -> none.drawn(1, -1, 0));
        S.refused(none, "drawn(1, 0, 3), no book", OUTSIDE, () -> none.drawn(1, 0, 3));
        S.refused(none, "drawn(1, 0, 0), no book", STATE, () -> none.drawn(1, 0, 0));
    }

    private static void refusalsChangeNothing() {
        DictProof d = S.with("-,0;n0i,d1lx1x,s0lx0x", "lli", "", "pxy");
        d.see(2, 1, true);
        S.due("image()", d.image(), 2);
        long kept = d.digest();
        d.change(0, 3);
        S.put(d, 3, "i");
        for (int i = 0; i < 5; i++) {
            d.see(1, 0, false);
        }
        Sentences.page(d, "z");
        S.refused(d, "letter(31)", OUTSIDE, () -> d.letter(31));
        S.refused(d, "book()", STATE, d::book);
        S.refused(d, "type(0)", STATE, () -> d.type(0));
        S.refused(d, "type(4)", UNKNOWN, () -> d.type(4));
        S.refused(d, "change(3, 0)", UNKNOWN, () -> d.change(3, 0));
        S.refused(d, "change(0, 5)", OUTSIDE, () -> d.change(0, 5));
        S.refused(d, "see(0, 0, true)", FULL, () -> d.see(0, 0, true));
        S.refused(d, "see(3, 0, true)", UNKNOWN, () -> d.see(3, 0, true));
        S.refused(d, "drawn(0, 0, 0)", OUTSIDE, () -> d.drawn(0, 0, 0));
        S.refused(d, "count(11)", OUTSIDE, () -> d.count(11));
        d.blank();
        Sentences.page(d, "llllllllli");
        S.refused(d, "type(0)", FULL, () -> d.type(0));
        Sentences.page(d, "z".repeat(74));
        S.refused(d, "letter('z')", FULL, () -> d.letter('z'));
        d.blank();
        S.due("the image is as it was kept", d.restore(), 2);
        S.due("digest()", d.digest(), kept);
    }
}
