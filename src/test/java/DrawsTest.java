import java.math.BigInteger;

/** SEEDS and DRAWS: where z wraps around, its sign's bit, the cut, and each number of ROUNDS. */
public final class DrawsTest {
    private static final Due DUE = new Due();
    private static final BigInteger TIMES = BigInteger.valueOf(1103515245);
    private static final BigInteger MORE = BigInteger.valueOf(12345);
    private static final BigInteger INT_SIZE = BigInteger.ONE.shiftLeft(32);
    private static final BigInteger WITHOUT_SIGN = BigInteger.ONE.shiftLeft(31);

    private DrawsTest() {
    }

    public static void main(String[] args) {
        seedsThatWrap();
        seedsThatBecomeEdges();
        manySeeds();
        smallRows();
        fromNow();
        DUE.end();
    }

    private static void due(String call, long got, long want) {
        DUE.is(call, got, want);
    }

    /** One ROUND of 120 by the DRAW that is due. */
    private static void drawn(int z, int draw) {
        EachSecondStruck x = Due.by("n120;");
        due("seeds(1, " + z + ")", x.seeds(1, z), 120 - 120 / (2 + draw));
    }

    private static void seedsThatWrap() {
        // 12345, cut 0
        drawn(0, 0);
        // 1103527590, an int yet: cut 16838
        drawn(1, 6);
        // 2207042835 wraps to -2087924461, without the sign's bit 59559187: cut 908
        drawn(2, 4);
        // 3310558080 wraps to -984409216, without the sign's bit 1163074432: cut 17747
        drawn(3, 3);
        // -1103502900, without the sign's bit 1043980748: cut 15929
        drawn(-1, 1);
        // 2369780942852710860 wraps to 1043980748: cut 15929
        drawn(Integer.MAX_VALUE, 1);
        // -2369780943956201415 wraps to -2147471303, without the sign's bit 12345: cut 0
        drawn(Integer.MIN_VALUE, 0);
    }

    /** Seeds reckoned backward, so that z becomes just what is told beside them. */
    private static void seedsThatBecomeEdges() {
        // 0 and 1
        drawn(-59267453, 0);
        drawn(-349072920, 0);
        // 65535 and 65536: the cut
        drawn(-115164386, 0);
        drawn(-404969853, 1);
        // 524287 and 524288: the modulo
        drawn(1759886110, 7);
        drawn(1470080643, 0);
        // the greatest int, the least int, which has no bit but its sign's, and -1, which has all
        drawn(-1916945634, 7);
        drawn(2088216195, 0);
        drawn(230538014, 7);
        // the sign's bit with 65535, 65536 and 7 times 65536
        drawn(2032319262, 0);
        drawn(1742513795, 1);
        drawn(-331700605, 7);
    }

    /** Reckoned without an int that could wrap by itself. */
    private static int due(int children, int n, int z) {
        BigInteger seed = BigInteger.valueOf(z);
        int left = children;
        for (int i = 0; i < n; i++) {
            seed = seed.multiply(TIMES).add(MORE).mod(INT_SIZE);
            int cut = seed.mod(WITHOUT_SIGN).divide(BigInteger.valueOf(65536)).intValue();
            left -= left / (2 + cut % 8);
        }
        return left;
    }

    private static void manySeeds() {
        for (int n = 1; n <= 30; n++) {
            EachSecondStruck x = Due.by("n120;");
            for (int i = -50; i <= 50; i++) {
                int z = i * 42949673;
                due("seeds(" + n + ", " + z + ")", x.seeds(n, z), due(120, n, z));
                due("seeds(" + n + ", " + i + ")", x.seeds(n, i), due(120, n, i));
            }
            due("seeds(" + n + ", MOST)", x.seeds(n, Integer.MAX_VALUE), due(120, n, Integer.MAX_VALUE));
            due("seeds(" + n + ", LEAST)", x.seeds(n, Integer.MIN_VALUE), due(120, n, Integer.MIN_VALUE));
        }
    }

    private static void smallRows() {
        EachSecondStruck x = Due.by("n1;");
        due("one alone stays", x.seeds(30, 5), 1);
        x.set(0, 5);
        due("one alone stays by FIRSTS too", x.seeds(30, 5), 1);
        x.round();
        due("nobody left", x.seeds(30, 5), 0);
        // COUNT 2 on two, COUNT 9 on eight and nine
        due("two by 2", Due.by("n2;").seeds(1, 0), 1);
        due("eight by 9", Due.by("n8;").seeds(1, 230538014), 8);
        due("nine by 9", Due.by("n9;").seeds(1, 230538014), 8);
    }

    /** From now: who is gone does not count; ROUND, KIND, FIGURE, STEPS do not matter. */
    private static void fromNow() {
        for (int kind = 0; kind <= 6; kind++) {
            EachSecondStruck x = Due.by("n120;s" + kind + "3;t4;x1,2;");
            due("seeds(4, 77), KIND " + kind, x.seeds(4, 77), due(120, 4, 77));
            x.round();
            x.round();
            due("seeds(4, 77) behind ROUNDS, KIND " + kind, x.seeds(4, 77), due(x.count(1), 4, 77));
            due("ROUND", x.count(2), 2);
        }
    }
}
