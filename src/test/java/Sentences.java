import java.io.IOException;
import java.nio.file.Files;
import java.nio.file.Path;
import java.util.ArrayList;
import java.util.Comparator;
import java.util.List;
import java.util.function.IntSupplier;
import java.util.regex.Matcher;
import java.util.regex.Pattern;

/**
 * Tests that each name a promise and the sentence of the document that the class is held against.
 * At the end the sentences are looked up in the document: each must stand there word for word, and
 * none of the document's may be without a test.
 */
final class Sentences {
    static final int NONE = -1, UNKNOWN = -101, OUTSIDE = -102, STATE = -103, FULL = -104;
    static final int MIN = Integer.MIN_VALUE, MAX = Integer.MAX_VALUE;

    /** As large as a book can be: 4 classes, 6 instances, heads of 5 letters, two conditions each: 81 letters. */
    static final String LARGEST =
        "-,0,01,12;n0ppxyx0x0y,d1ppxyx1x1y,h2ppxyx2x2y,f3ppxyx3x3y,s0ppxyx0x0x,n1ppxyx1y1y";

    private record Test(int promise, String sentence) {
    }

    private final List<Test> tests = new ArrayList<>();
    private int wrong = 0;
    private Test running = null;

    void test(int promise, String sentence, Runnable body) {
        running = new Test(promise, sentence);
        tests.add(running);
        body.run();
    }

    /** Tells all that is not as due, and ends with 1 if there was something. */
    void end() {
        System.out.println(wrong == 0
            ? tests.size() + " sentences hold" : wrong + " answers are not as the sentences ask");
        if (wrong != 0) {
            System.exit(1);
        }
    }

    void due(String call, long got, long want) {
        if (got != want) {
            tell(call + " answered " + got + ", due is " + want);
        }
    }

    /** A refused call changes nothing, so what is told of all must be the same behind it. */
    void refused(DictProof d, String call, int want, IntSupplier body) {
        long before = d.digest();
        due(call, body.getAsInt(), want);
        due("digest() behind the refused " + call, d.digest(), before);
    }

    static DictProof page(DictProof d, String text) {
        for (char c : text.toCharArray()) {
            d.letter(c);
        }
        return d;
    }

    /** A new object with a book, and types from slot 0 on; a type "" leaves its slot empty. */
    DictProof with(String book, String... types) {
        DictProof d = page(new DictProof(), book);
        int read = d.book();
        if (read < 1) {
            tell("book() of " + book + " answered " + read);
        }
        for (int slot = 0; slot < types.length; slot++) {
            if (!types[slot].isEmpty()) {
                put(d, slot, types[slot]);
            }
        }
        return d;
    }

    void put(DictProof d, int slot, String type) {
        due("type(" + slot + ") of " + type, page(d, type).type(slot), type.length());
    }

    private void tell(String what) {
        wrong++;
        System.out.println("promise " + running.promise + ", \"" + running.sentence + "\": " + what);
    }

    /** Looks up the sentences that stand in the promises themselves, promise by promise. */
    void lookUpPromises(String project) throws IOException {
        String document = document(project);
        if (document == null) {
            return;
        }
        for (int promise = 1; promise <= 22; promise++) {
            int number = promise;
            Matcher section = Pattern.compile("## Promise " + promise + ": [^`]*`[^`]*`: (.*?)(?= ## |$)").matcher(document);
            String text = section.find() ? section.group(1) : "";
            lookUp("promise " + promise, text, tests.stream().filter(t -> t.promise == number).toList());
        }
    }

    /** Looks up the sentences that stand ahead of the promises. */
    void lookUpTerms(String project) throws IOException {
        String document = document(project);
        if (document == null) {
            return;
        }
        String front = between(document, "======== 1 ", "## The public face")
            + between(document, "## Terms ", "Ahead of the calls");
        lookUp("the terms", front.replaceAll("```(text)?|======== \\d", " ").replaceAll("\\s+", " "), tests);
    }

    private static String document(String project) throws IOException {
        Path path = Path.of(project, "../shared/DOC.md");
        if (!Files.isReadable(path)) {
            System.out.println("no document at " + path + ": the sentences are not looked up");
            return null;
        }
        return Files.readString(path).replaceAll("\\s+", " ");
    }

    private static String between(String text, String from, String to) {
        int start = text.indexOf(from) + from.length();
        return text.substring(start, text.indexOf(to, start));
    }

    private void lookUp(String where, String text, List<Test> named) {
        String left = text;
        List<Test> longestFirst = new ArrayList<>(named);
        longestFirst.sort(Comparator.comparingInt((Test t) -> -t.sentence.length()));
        for (Test test : longestFirst) {
            running = test;
            if (!text.contains(test.sentence)) {
                tell("does not stand in " + where + " of the document");
            }
            left = left.replace(test.sentence, " ");
        }
        if (Pattern.compile("\\w").matcher(left).find()) {
            wrong++;
            System.out.println(where + " has what no test names: " + left.trim());
        }
    }
}
