import java.util.Random;

/** Random runs of calls on the class and on the model: each answer must be the same. */
public final class ModelTest {
    private static final int RUNS = 3000;
    /** What later calls answer is free. */
    private static final int CALLS = 512;
    /** A book of 81 letters, with fault() and book(). */
    private static final int MOST_IN_A_STEP = 83;

    private final Random random;
    private final int run;
    private final DictProof real = new DictProof();
    private final Model model = new Model();
    private int calls = 0;
    private int wrong = 0;

    private ModelTest(int run) {
        this.run = run;
        this.random = new Random(run);
    }

    public static void main(String[] args) {
        int wrong = 0;
        for (int run = 0; run < RUNS && wrong < 20; run++) {
            wrong += new ModelTest(run).play();
        }
        System.out.println(wrong == 0 ? "the class and the model agree" : wrong + " answers differ");
        if (wrong != 0) {
            System.exit(1);
        }
    }

    private int play() {
        if (random.nextInt(4) == 0) {
            strayCall();
        }
        while (calls + MOST_IN_A_STEP < CALLS && wrong == 0) {
            int dice = random.nextInt(100);
            if (dice < 1 || calls < 10) {
                write(randomBook());
                due("fault()", real.fault(), model.fault());
                due("book()", real.book(), model.book());
            } else if (dice < 8) {
                write(randomType(1 + random.nextInt(5)));
                int slot = random.nextInt(4);
                due("type(" + slot + ")", real.type(slot), model.type(slot));
                if (random.nextInt(3) > 0) {
                    due("blank()", real.blank(), model.blank());
                }
            } else if (dice < 12) {
                scribble();
            } else if (dice < 20) {
                int i = near(6);
                int k = near(5);
                due("change(" + i + ", " + k + ")", real.change(i, k), model.change(i, k));
            } else {
                strayCall();
            }
        }
        while (calls < CALLS - 1 && wrong == 0) {
            strayCall();
        }
        due("digest()", real.digest(), model.digest());
        return wrong;
    }

    private void due(String call, long got, long want) {
        calls++;
        if (got != want) {
            wrong++;
            System.out.println("run " + run + ": " + call + " answered " + got + ", due is " + want);
        }
    }

    /** Mostly a number from 0 to one less than many, now and then one that is outside. */
    private int near(int many) {
        int dice = random.nextInt(40);
        if (dice == 0) {
            return -1 - random.nextInt(3);
        }
        if (dice == 1) {
            return many + random.nextInt(3);
        }
        if (dice == 2) {
            return random.nextBoolean() ? Integer.MAX_VALUE : Integer.MIN_VALUE;
        }
        return random.nextInt(many);
    }

    private void write(String text) {
        for (char c : text.toCharArray()) {
            due("letter(" + (int) c + ")", real.letter(c), model.letter(c));
        }
    }

    private void scribble() {
        String signs = "ibllppxyxy01-,;ndhfs23 ~";
        int many = random.nextInt(12);
        for (int i = 0; i < many; i++) {
            int code = random.nextInt(30) == 0 ? random.nextInt(200) - 20 : signs.charAt(random.nextInt(signs.length()));
            due("letter(" + code + ")", real.letter(code), model.letter(code));
        }
        due("fault()", real.fault(), model.fault());
        if (random.nextInt(4) > 0) {
            due("blank()", real.blank(), model.blank());
        }
    }

    private String randomType(int roughSize) {
        int dice = random.nextInt(10);
        if (roughSize <= 1 || dice < 1) {
            return String.valueOf("ibxyixyi".charAt(random.nextInt(8)));
        }
        if (roughSize == 2 || dice < 6) {
            return "l" + randomType(roughSize - 1);
        }
        int first = 1 + random.nextInt(roughSize);
        return "p" + randomType(first) + randomType(Math.max(1, roughSize - first));
    }

    private String randomHead() {
        String[] common = {"lx", "ly", "x", "i", "b", "pxy", "pxx", "li", "llx", "lpxy", "pxlx", "plxy", "ppxyx", "pxpyy"};
        if (random.nextInt(3) > 0) {
            return common[random.nextInt(common.length)];
        }
        return randomType(1 + random.nextInt(3));
    }

    private String randomBook() {
        StringBuilder text = new StringBuilder();
        int classes = 1 + random.nextInt(4);
        for (int i = 0; i < classes; i++) {
            text.append(i == 0 ? "" : ",").append(randomClass(i));
        }
        text.append(';');
        int instances = 1 + random.nextInt(6);
        for (int i = 0; i < instances; i++) {
            text.append(i == 0 ? "" : ",").append(randomInstance(classes));
        }
        if (random.nextInt(12) == 0) {
            int at = random.nextInt(text.length());
            text.setCharAt(at, "ibplxy0123,;-n".charAt(random.nextInt(14)));
        }
        return text.toString();
    }

    private String randomClass(int number) {
        if (number == 0 || random.nextInt(4) == 0) {
            return "-";
        }
        int one = random.nextInt(number);
        int other = random.nextInt(number);
        return one < other ? "" + one + other : "" + one;
    }

    private String randomInstance(int classes) {
        String head = randomHead();
        StringBuilder text = new StringBuilder();
        text.append("nnnndhfs".charAt(random.nextInt(8))).append(random.nextInt(classes)).append(head);
        int conditions = random.nextInt(3);
        for (int i = 0; i < conditions; i++) {
            char gap = random.nextBoolean() ? 'x' : 'y';
            if (head.indexOf(gap) >= 0 || random.nextInt(20) == 0) {
                text.append(random.nextInt(classes)).append(gap);
            }
        }
        return text.toString();
    }

    private void strayCall() {
        int a = near(6);
        int c = near(4);
        int slot = near(4);
        switch (random.nextInt(19)) {
            case 0 -> { int w = near(3); due("about(" + c + ", " + w + ")", real.about(c, w), model.about(c, w)); }
            case 1, 2 -> { int w = near(8); due("instance(" + a + ", " + w + ")", real.instance(a, w), model.instance(a, w)); }
            case 3 -> { int w = near(5); due("as(" + a + ", " + w + ")", real.as(a, w), model.as(a, w)); }
            case 4, 5 -> {
                int b = near(6);
                int w = near(3);
                due("pair(" + a + ", " + b + ", " + w + ")", real.pair(a, b, w), model.pair(a, b, w));
            }
            case 6 -> due("fits(" + a + ", " + slot + ")", real.fits(a, slot), model.fits(a, slot));
            case 7, 8 -> {
                int w = near(7);
                due("goal(" + c + ", " + slot + ", " + w + ")", real.goal(c, slot, w), model.goal(c, slot, w));
            }
            case 9, 10 -> {
                int p = random.nextInt(3) == 0 ? random.nextInt(40) : near(6);
                due("entry(" + c + ", " + slot + ", " + p + ")", real.entry(c, slot, p), model.entry(c, slot, p));
            }
            case 11 -> {
                int n = near(4);
                int v = near(2);
                due("need(" + c + ", " + slot + ", " + n + ", " + v + ")", real.need(c, slot, n, v), model.need(c, slot, n, v));
            }
            case 12 -> {
                int w = near(4);
                boolean so = random.nextBoolean();
                due("see(" + a + ", " + w + ", " + so + ")", real.see(a, w, so), model.see(a, w, so));
            }
            case 13 -> {
                if (random.nextInt(4) == 0) {
                    due("forget()", real.forget(), model.forget());
                }
            }
            case 14 -> {
                int t = 1 + near(30);
                int seed = random.nextInt(20) == 0 ? random.nextInt() : random.nextInt(Integer.MAX_VALUE);
                int w = near(3);
                due("drawn(" + t + ", " + seed + ", " + w + ")", real.drawn(t, seed, w), model.drawn(t, seed, w));
            }
            case 15 -> due("image()", real.image(), model.image());
            case 16 -> due("restore()", real.restore(), model.restore());
            case 17 -> { int w = near(11); due("count(" + w + ")", real.count(w), model.count(w)); }
            default -> due("digest()", real.digest(), model.digest());
        }
    }
}
