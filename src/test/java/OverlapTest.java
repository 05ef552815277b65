import java.util.ArrayList;
import java.util.BitSet;
import java.util.List;

/**
 * All pairs of heads that there are: they overlap just if a type without variables is found that
 * both fit. A size of 11 is enough: "ppxxx" and "pxpyy" need the largest one.
 */
public final class OverlapTest {
    private static final int LARGEST = 11;

    private static int wrong = 0;

    public static void main(String[] args) {
        List<String> ground = typesUpTo(LARGEST, "ib");
        List<String> heads = typesUpTo(5, "ibxy");
        List<BitSet> fitted = new ArrayList<>();
        for (String head : heads) {
            BitSet row = new BitSet();
            for (int i = 0; i < ground.size(); i++) {
                if (fits(head, ground.get(i))) {
                    row.set(i);
                }
            }
            fitted.add(row);
        }
        for (int one = 0; one < heads.size(); one++) {
            for (int from = one + 1; from < heads.size(); from += 5) {
                compare(heads, fitted, one, from);
            }
        }
        System.out.println(wrong == 0 ? heads.size() + " heads: all pairs are as due" : wrong + " pairs are wrong");
        if (wrong != 0) {
            System.exit(1);
        }
    }

    private static void compare(List<String> heads, List<BitSet> fitted, int one, int from) {
        DictProof d = new DictProof();
        StringBuilder text = new StringBuilder("-;n0").append(heads.get(one));
        int to = Math.min(from + 5, heads.size());
        for (int other = from; other < to; other++) {
            text.append(",n0").append(heads.get(other));
        }
        for (int i = 0; i < text.length(); i++) {
            d.letter(text.charAt(i));
        }
        d.book();
        for (int other = from; other < to; other++) {
            int want = fitted.get(one).intersects(fitted.get(other)) ? 1 : 0;
            int got = d.pair(0, 1 + other - from, 0);
            int back = d.pair(1 + other - from, 0, 0);
            if (got != want || back != want) {
                wrong++;
                System.out.println(heads.get(one) + " and " + heads.get(other) + ": " + got + ", " + back + ", due is " + want);
            }
        }
    }

    private static List<String> typesUpTo(int size, String leaves) {
        List<List<String>> bySize = new ArrayList<>();
        bySize.add(List.of());
        List<String> all = new ArrayList<>();
        for (int n = 1; n <= size; n++) {
            List<String> row = new ArrayList<>();
            if (n == 1) {
                for (char c : leaves.toCharArray()) {
                    row.add(String.valueOf(c));
                }
            }
            for (String inner : bySize.get(n - 1)) {
                row.add("l" + inner);
            }
            for (int first = 1; first < n - 1; first++) {
                for (String a : bySize.get(first)) {
                    for (String b : bySize.get(n - 1 - first)) {
                        row.add("p" + a + b);
                    }
                }
            }
            bySize.add(row);
            all.addAll(row);
        }
        return all;
    }

    private static boolean fits(String head, String type) {
        String[] put = new String[2];
        int at = 0;
        for (char c : head.toCharArray()) {
            if (c != 'x' && c != 'y') {
                if (type.charAt(at) != c) {
                    return false;
                }
                at++;
                continue;
            }
            int end = Model.endOfType(type, at);
            String part = type.substring(at, end);
            int variable = c - 'x';
            if (put[variable] != null && !put[variable].equals(part)) {
                return false;
            }
            put[variable] = part;
            at = end;
        }
        return true;
    }
}
