import java.math.BigInteger;
import java.util.Arrays;

/** Every answer of the row without end, struck for real in a row that is long enough; every throw. */
public final class EndlessTest {
    private static final Due DUE = new Due();
    /** Longer than the 200th of NEXT, 31483. */
    private static final int LONG_ROW = 32000;

    private EndlessTest() {
    }

    public static void main(String[] args) {
        EachSecondStruck x = new EachSecondStruck();
        for (int kind = 0; kind <= 1; kind++) {
            compare(x, kind, 2);
        }
        for (int figure = 2; figure <= 9; figure++) {
            x.set(1, figure);
            compare(x, 2, figure);
        }
        throwsByAllKinds();
        DUE.end();
    }

    private static void compare(EachSecondStruck x, int kind, int figure) {
        int[] line = new int[LONG_ROW];
        for (int i = 0; i < LONG_ROW; i++) {
            line[i] = i + 1;
        }
        int[] went = new int[LONG_ROW + 1];
        Arrays.fill(went, -9);
        int length = strikeAll(line, went, kind, figure);
        for (int i = 1; i <= 200; i++) {
            DUE.is("endless(" + kind + ", " + i + "), FIGURE " + figure, x.endless(kind, i),
                i <= length ? line[i - 1] : -9);
        }
        for (int m = 1; m <= 1500; m++) {
            DUE.is("endlessWhen(" + kind + ", " + m + "), FIGURE " + figure, x.endlessWhen(kind, m), went[m]);
        }
    }

    private static int strikeAll(int[] line, int[] went, int kind, int figure) {
        int length = line.length;
        for (int r = 1; r <= 5000; r++) {
            int count = kind == 0 ? r + 1 : kind == 2 ? figure : r == 1 ? 2 : r <= length ? line[r - 1] : length + 1;
            int left = 0;
            for (int i = 0; i < length; i++) {
                if ((i + 1) % count == 0) {
                    went[line[i]] = r;
                } else {
                    line[left] = line[i];
                    left++;
                }
            }
            length = left;
        }
        return length;
    }

    private static void throwsByAllKinds() {
        for (int kind : new int[] {0, 2, 3, 5, 6}) {
            EachSecondStruck x = new EachSecondStruck();
            x.set(0, kind);
            for (int round = 0; round < 400; round++) {
                int figure = 2 + round % 8;
                x.set(1, figure);
                int n = round % 13;
                int first = kind == 2 ? figure : kind == 6 ? 2 : round + 2;
                compareThrow(x, n, first, kind == 2 || kind == 6 ? 0 : 1);
                x.round();
            }
        }
    }

    private static void compareThrow(EachSecondStruck x, int n, int first, int more) {
        BigInteger above = BigInteger.ONE;
        BigInteger below = BigInteger.ONE;
        for (int i = 0; i < n; i++) {
            above = above.multiply(BigInteger.valueOf(first + more * i - 1));
            below = below.multiply(BigInteger.valueOf(first + more * i));
        }
        BigInteger divisor = above.gcd(below);
        DUE.is("throwsBy(" + n + ", 0) from COUNT " + first, x.throwsBy(n, 0), above.divide(divisor).longValueExact());
        DUE.is("throwsBy(" + n + ", 1) from COUNT " + first, x.throwsBy(n, 1), below.divide(divisor).longValueExact());
    }
}
