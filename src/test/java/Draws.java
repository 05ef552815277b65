import java.math.BigInteger;

/** The document's draws once more, with numbers that cannot wrap. */
final class Draws {
    private static final BigInteger REST = BigInteger.TWO.pow(31);
    private BigInteger seed;

    Draws(int seed) {
        this.seed = BigInteger.valueOf(seed);
    }

    int draw(int many) {
        seed = seed.multiply(BigInteger.valueOf(1103515245)).add(BigInteger.valueOf(12345)).mod(REST);
        return seed.divide(BigInteger.valueOf(65536)).mod(BigInteger.valueOf(many)).intValueExact();
    }

    /** A type by draws; level 0 is the whole one, 2 is as deep as it goes. */
    String type(int level) {
        int sign = draw(level < 2 ? 4 : 2);
        StringBuilder text = new StringBuilder().append("iblp".charAt(sign));
        for (int part = 1; part < sign; part++) {
            text.append(type(level + 1));
        }
        return text.toString();
    }

    long seed() {
        return seed.longValueExact();
    }
}
