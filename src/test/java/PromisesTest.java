/** One method a promise: ordinary calls, edges, wrong inputs, with answers reckoned by hand. */
public final class PromisesTest {
    private static final Due DUE = new Due();
    private static final long LONG = 4000000000000000000L;

    private PromisesTest() {
    }

    public static void main(String[] args) {
        setUp();
        telling();
        standing();
        inMind();
        kinds();
        unclearWords();
        apart();
        judging();
        keeping();
        DUE.end();
    }

    private static void due(String call, long got, long want) {
        DUE.is(call, got, want);
    }

    private static void refused(String call, EachSecondStruck x, int number, long got, int before) {
        due(call, got, -number);
        due(call + ", refusals", x.count(10 + number), before + 1);
    }

    private static void line(String call, EachSecondStruck x, int... numbers) {
        for (int i = 0; i < numbers.length; i++) {
            due(call + " left(" + (i + 1) + ")", x.left(i + 1), numbers[i]);
        }
        due(call + " left behind the last", x.left(numbers.length + 1), -9);
        due(call + " count(1)", x.count(1), numbers.length);
    }

    private static void stay(String call, EachSecondStruck x, int... numbers) {
        for (int i = 0; i < numbers.length; i++) {
            due(call + " stays(" + i + ")", x.stays(i), numbers[i]);
        }
        due(call + " stays behind the last", x.stays(numbers.length), -9);
        due(call + " count(8)", x.count(8), numbers.length);
    }

    private static void go(String call, EachSecondStruck x, int... numbers) {
        for (int i = 0; i < numbers.length; i++) {
            due(call + " goes(" + i + ")", x.goes(i), numbers[i]);
        }
        due(call + " goes behind the last", x.goes(numbers.length), -9);
    }

    private static void setUp() {
        promise1();
        promise4();
        promise5();
        promise6();
    }

    private static void promise1() {
        EachSecondStruck x = new EachSecondStruck();
        int[] counts = {20, 20, 0, 0, 2, 0, 0, 0, 5, -9, -9, 0, 0, 0, 0, 0, 0, -9};
        for (int what = 0; what < counts.length; what++) {
            due("new count(" + what + ")", x.count(what), counts[what]);
        }
        for (int place = 1; place <= 20; place++) {
            due("new left", x.left(place), place);
        }
        refused("new restore()", x, 3, x.restore(), 0);
    }

    private static void telling() {
        promise2();
        promise3();
        faultsOfLetters();
        faultsOfStatements();
    }

    private static void promise2() {
        EachSecondStruck x = new EachSecondStruck();
        due("feed(0)", x.feed(0), 1);
        due("feed(255)", x.feed(255), 2);
        refused("feed(-1)", x, 4, x.feed(-1), 0);
        refused("feed(256)", x, 6, x.feed(256), 0);
        for (int i = 3; i <= 48; i++) {
            due("feed " + i, x.feed('t'), i);
        }
        refused("feed(116) as the 49th", x, 6, x.feed('t'), 1);
        refused("feed(-1) as the 49th", x, 4, x.feed(-1), 1);
        due("count(6)", x.count(6), 48);
        due("row()", x.row(), -1000);
        due("count(6) behind row", x.count(6), 0);
        due("feed(110) behind row", x.feed('n'), 1);
    }

    private static void promise3() {
        EachSecondStruck x = new EachSecondStruck();
        due("row", Due.row(x, "n10;x3,7;s25;t3;t9;"), 5);
        due("count(0)", x.count(0), 10);
        due("count(3)", x.count(3), 2);
        due("count(4)", x.count(4), 5);
        due("count(5)", x.count(5), 2);
        due("count(6)", x.count(6), 0);
        line("row", x, 1, 2, 7, 4, 5, 6, 3, 8, 9, 10);
        x.round();
        due("row with n behind a round", Due.row(x, "n007;x1,7;"), 2);
        line("n again", x, 7, 2, 3, 4, 5, 6, 1);
        due("count(2)", x.count(2), 0);
        due("KIND stays by n", x.count(3), 2);
        due("FIGURE stays by n", x.count(4), 5);
        due("STEPS stay by n", x.count(5), 2);
        due("when(5) begins anew", x.when(5), 1);
        due("row", Due.row(x, "n120;"), 1);
        due("count(0)", x.count(0), 120);
        due("left(120)", x.left(120), 120);
        due("row of 48 letters", Due.row(x, "n9;n9;n9;n9;n9;n9;n9;n9;n9;n9;n9;n9;n9;n9;n9;n1;"), 16);
        due("count(0)", x.count(0), 1);
    }

    private static void fault(String text, int want) {
        EachSecondStruck x = Due.by("n9;x1,2;s14;t3;");
        String before = Due.state(x);
        due("row of \"" + text + "\"", Due.row(x, text), want);
        due("\"" + text + "\" changed something", Due.state(x).equals(before) ? 0 : 1, 0);
        for (int what = 11; what <= 16; what++) {
            due("\"" + text + "\" is counted at " + what, x.count(what), 0);
        }
    }

    private static void faultsOfLetters() {
        fault("", -1000);
        fault(";", -1000);
        fault("N1;", -1000);
        fault("n", -1001);
        fault("n;", -1001);
        fault("n1", -1002);
        fault("n1,", -1002);
        fault("n1234;", -1004);
        fault("s", -1001);
        fault("s1", -1002);
        fault("s1;", -1002);
        fault("s12", -1003);
        fault("s123;", -1003);
        fault("t", -1001);
        fault("tx", -1001);
        fault("t2", -1002);
        fault("t22;", -1002);
        fault("x1", -1002);
        fault("x1;", -1002);
        fault("x,1;", -1001);
        fault("x1,", -1003);
        fault("x1,;", -1003);
        fault("x1,2", -1004);
        fault("x1,2,", -1004);
        fault("x1234,1;", -1004);
        fault("x1,1234;", -1006);
        fault("n5; n6;", -1003);
        fault("n5;;", -1003);
        fault("n5;n", -1004);
        fault("n0;q", -1003);
    }

    private static void faultsOfStatements() {
        fault("n0;", -2000);
        fault("n121;", -2000);
        fault("n5;n999;", -2003);
        fault("s72;", -2000);
        fault("s01;", -2000);
        fault("s00;", -2000);
        fault("t1;", -2000);
        fault("t0;", -2000);
        fault("t2;t2;t2;t2;t2;t2;t2;t2;", -2021);
        fault("x1,1;", -2000);
        fault("x0,1;", -2000);
        fault("x1,0;", -2000);
        fault("x1,10;", -2000);
        fault("x10,1;", -2000);
        fault("n5;x1,6;", -2003);
        fault("n5;x1,2;s99;n0;", -2008);
        EachSecondStruck x = new EachSecondStruck();
        x.round();
        due("x above ROUND 0", Due.row(x, "x1,2;"), -2000);
        due("x above ROUND 0, n behind", Due.row(x, "s11;x1,2;n5;"), -2000);
        due("x above ROUND 0 behind s", Due.row(x, "s12;x1,2;n5;"), -2004);
        due("x behind n", Due.row(x, "n5;x1,2;"), 2);
        line("x behind n", x, 2, 1, 3, 4, 5);
    }

    private static void promise4() {
        EachSecondStruck x = new EachSecondStruck();
        due("set(0, 6)", x.set(0, 6), 0);
        due("set(0, 1)", x.set(0, 1), 6);
        due("set(0, 0)", x.set(0, 0), 1);
        due("set(1, 9)", x.set(1, 9), 2);
        due("set(1, 2)", x.set(1, 2), 9);
        refused("set(2, 3)", x, 2, x.set(2, 3), 0);
        refused("set(-1, 3)", x, 2, x.set(-1, 3), 1);
        refused("set(2, -3)", x, 2, x.set(2, -3), 2);
        refused("set(1, 1)", x, 4, x.set(1, 1), 0);
        refused("set(1, 10)", x, 6, x.set(1, 10), 0);
        due("count(3)", x.count(3), 0);
        due("count(4)", x.count(4), 2);
    }

    private static void promise5() {
        EachSecondStruck x = new EachSecondStruck();
        refused("step(1)", x, 4, x.step(1), 0);
        refused("step(10)", x, 6, x.step(10), 0);
        due("step(2)", x.step(2), 1);
        for (int i = 2; i <= 8; i++) {
            due("step " + i, x.step(9), i);
        }
        refused("step(2) as the 9th", x, 6, x.step(2), 1);
        refused("step(1) as the 9th", x, 4, x.step(1), 1);
        due("count(5)", x.count(5), 8);
    }

    private static void promise6() {
        EachSecondStruck x = Due.by("n5;");
        due("swap(1, 5)", x.swap(1, 5), 1);
        due("swap(5, 2)", x.swap(5, 2), 1);
        line("swapped", x, 2, 5, 3, 4, 1);
        refused("swap(0, 1)", x, 1, x.swap(0, 1), 0);
        refused("swap(1, 6)", x, 1, x.swap(1, 6), 1);
        refused("swap(3, 3)", x, 1, x.swap(3, 3), 2);
        x.round();
        refused("swap(2, 3) above ROUND 0", x, 3, x.swap(2, 3), 0);
        refused("swap(2, 5), one gone", x, 3, x.swap(2, 5), 1);
        refused("swap(2, 2) above ROUND 0", x, 1, x.swap(2, 2), 3);
        line("behind refusals", x, 2, 3, 1);
    }

    private static void standing() {
        promises7and8();
        promises9and10();
    }

    private static void promises7and8() {
        EachSecondStruck x = Due.by("n10;");
        due("next()", x.next(), 2);
        due("round()", x.round(), 5);
        due("next()", x.next(), 3);
        due("round()", x.round(), 1);
        due("round()", x.round(), 1);
        line("three rounds", x, 1, 3, 7);
        due("round()", x.round(), 0);
        due("count(2)", x.count(2), 4);
        due("next()", x.next(), 6);
        // more calls than an object is promised for, but the greatest ROUND is promised too
        for (int i = 4; i < 999; i++) {
            x.round();
        }
        due("count(2)", x.count(2), 999);
        due("next() at 999", x.next(), 1001);
        refused("round() at 999", x, 6, x.round(), 0);
        due("count(2)", x.count(2), 999);
    }

    private static void promises9and10() {
        EachSecondStruck x = Due.by("n5;x1,5;");
        x.round();
        line("left", x, 5, 3, 1);
        refused("left(0)", x, 4, x.left(0), 0);
        due("left(2147483647)", x.left(Integer.MAX_VALUE), -9);
        due("place(5)", x.place(5), 1);
        due("place(1)", x.place(1), 3);
        due("place(2)", x.place(2), -9);
        refused("place(0)", x, 1, x.place(0), 0);
        refused("place(6)", x, 1, x.place(6), 1);
    }

    private static void inMind() {
        promises11to13();
        promises14to16();
        promises17to20();
    }

    private static void promises11to13() {
        EachSecondStruck x = Due.by("n10;");
        int[] when = {-9, 1, -9, 1, 2, 1, -9, 1, 3, 1};
        for (int rounds = 0; rounds < 5; rounds++) {
            for (int number = 1; number <= 10; number++) {
                due("when(" + number + ")", x.when(number), when[number - 1]);
            }
            due("rounds()", x.rounds(), Math.max(3 - rounds, 0));
            due("behind(7, 60)", x.behind(7, 60), 3);
            due("behind(2, 60)", x.behind(2, 60), -9);
            x.round();
        }
        x = Due.by("n10;");
        due("behind(9, 0)", x.behind(9, 0), 9);
        due("behind(9, 1)", x.behind(9, 1), 5);
        due("behind(9, 2)", x.behind(9, 2), 4);
        due("behind(9, 3)", x.behind(9, 3), -9);
        refused("when(0)", x, 1, x.when(0), 0);
        refused("when(11)", x, 1, x.when(11), 1);
        refused("behind(11, -1)", x, 1, x.behind(11, -1), 2);
        refused("behind(1, -1)", x, 4, x.behind(1, -1), 0);
        refused("behind(1, 61)", x, 6, x.behind(1, 61), 0);
        due("nothing goes by in mind", x.count(2), 0);
    }

    private static void promises14to16() {
        EachSecondStruck x = Due.by("n10;x3,7;");
        stay("stays", x, 1, 7, 3);
        go("goes", x, 2, 4, 6, 8, 10, 5, 9);
        refused("stays(-1)", x, 4, x.stays(-1), 0);
        refused("goes(-1)", x, 4, x.goes(-1), 1);
        due("stays(2147483647)", x.stays(Integer.MAX_VALUE), -9);
        due("goes(2147483647)", x.goes(Integer.MAX_VALUE), -9);
        x.round();
        go("goes from now on", x, 5, 9);
        due("beside(1)", x.beside(1), 7);
        due("beside(7)", x.beside(7), 3);
        due("beside(3)", x.beside(3), -9);
        due("beside(9), it goes", x.beside(9), -9);
        due("beside(2), it is gone", x.beside(2), -9);
        refused("beside(0)", x, 1, x.beside(0), 0);
        refused("beside(11)", x, 1, x.beside(11), 1);
    }

    private static void promises17to20() {
        EachSecondStruck x = Due.by("n10;x3,7;x1,9;");
        stay("swapped", x, 9, 7, 3);
        due("gap(0)", x.gap(0), 4);
        due("gap(1)", x.gap(1), 7);
        refused("gap(2)", x, 2, x.gap(2), 0);
        refused("gap(-1)", x, 2, x.gap(-1), 1);
        due("near(0)", x.near(0), 0);
        due("near(3)", x.near(3), 1);
        due("near(8)", x.near(8), 2);
        due("near(120)", x.near(120), 3);
        refused("near(-1)", x, 4, x.near(-1), 0);
        refused("near(121)", x, 6, x.near(121), 0);
        due("friends()", x.friends(), -9);
        x.round();
        due("friends() behind a round", x.friends(), 1);
        x = Due.by("n4;s24;");
        due("friends() by SAME 4", x.friends(), 1);
        x = Due.by("n12;s32;");
        x.round();
        due("friends() by ENDS", x.friends(), 2);
        due("byOther(5)", x.byOther(5), 0);
        due("byOther(6)", x.byOther(6), 1);
        due("byOther(2)", x.byOther(2), 1);
        due("byOther(3)", x.byOther(3), x.count(8));
        refused("byOther(7)", x, 2, x.byOther(7), 0);
        refused("byOther(-1)", x, 2, x.byOther(-1), 1);
        due("count(3) stays", x.count(3), 3);
        x = Due.by("n1;");
        due("gap(0) of one", x.gap(0), -9);
        due("gap(1) of one", x.gap(1), -9);
    }

    private static void kinds() {
        EachSecondStruck x = Due.by("n20;s12;");
        stay("LUCK", x, 1, 3, 7, 9, 13, 15);
        go("LUCK", x, 2, 4, 6, 8, 10, 12, 14, 16, 18, 20, 5, 11, 17, 19);
        x = Due.by("n7;s23;");
        stay("SAME", x, 1, 2);
        go("SAME", x, 3, 6, 4, 5, 7);
        due("SAME rounds", x.rounds(), 4);
        x = Due.by("n12;s32;");
        stay("ENDS", x, 3, 5, 9);
        go("ENDS", x, 2, 4, 6, 8, 10, 12, 7, 1, 11);
        x = Due.by("n12;s62;");
        stay("HALVES", x, 11);
        go("HALVES", x, 2, 4, 6, 8, 10, 12, 9, 5, 1, 7, 3);
        due("HALVES rounds", x.rounds(), 4);
        due("HALVES next", x.next(), 2);
        x = Due.by("n5;s52;");
        stay("FIRSTS", x);
        go("FIRSTS", x, 1, 3, 5, 2, 4);
        due("FIRSTS rounds", x.rounds(), 3);
        toldSteps();
        luckWithSwaps();
    }

    private static void toldSteps() {
        EachSecondStruck x = Due.by("n7;s43;");
        stay("TOLD without STEPS", x, 1, 2);
        due("TOLD without STEPS, rounds", x.rounds(), 4);
        x = Due.by("n4;s42;t9;t2;");
        due("TOLD rounds", x.rounds(), 4);
        due("TOLD when(2)", x.when(2), 2);
        due("TOLD when(3)", x.when(3), 4);
        stay("TOLD", x, 1);
        due("TOLD next()", x.next(), 9);
        due("TOLD round()", x.round(), 0);
        due("TOLD next()", x.next(), 2);
        due("TOLD round()", x.round(), 2);
        due("TOLD next()", x.next(), 9);
        due("TOLD rounds from now", x.rounds(), 2);
        x.round();
        due("TOLD next()", x.next(), 2);
        due("TOLD rounds from now", x.rounds(), 1);
        x.round();
        due("TOLD rounds at THE END", x.rounds(), 0);
    }

    private static void luckWithSwaps() {
        EachSecondStruck x = Due.by("n6;s12;x1,3;");
        due("LUCK next()", x.next(), 2);
        x.round();
        line("LUCK", x, 3, 1, 5);
        due("LUCK by NUMBER 1", x.next(), 2);
        due("LUCK round()", x.round(), 1);
        due("LUCK one more than are left", x.next(), 3);
        stay("LUCK", x, 3, 5);
    }

    /** Where the words leave a doubt: this is how the program reads them. */
    private static void unclearWords() {
        EachSecondStruck x = new EachSecondStruck();
        refused("set(0, 7), a KIND that is none", x, 2, x.set(0, 7), 0);
        refused("set(0, -1), a KIND that is none", x, 2, x.set(0, -1), 1);
        x = Due.by("n10;s12;x3,9;");
        stay("LUCK, THE END in ROUND 2", x, 1, 9, 5, 7, 3);
        due("rounds()", x.rounds(), 1);
        due("when(3)", x.when(3), -9);
        due("behind(3, 2)", x.behind(3, 2), 5);
        due("behind(3, 3): ROUNDS go by beyond THE END", x.behind(3, 3), -9);
    }

    private static void apart() {
        promises21and22();
        promise23();
        promise24();
    }

    private static void promises21and22() {
        EachSecondStruck x = Due.by("n3;");
        int[] next = {1, 3, 7, 13, 19, 27, 39, 49, 63, 79};
        int[] luck = {1, 3, 7, 9, 13, 15, 21, 25, 31, 33};
        for (int i = 1; i <= 10; i++) {
            due("endless(0, " + i + ")", x.endless(0, i), next[i - 1]);
            due("endless(1, " + i + ")", x.endless(1, i), luck[i - 1]);
            due("endlessWhen(0, " + next[i - 1] + ")", x.endlessWhen(0, next[i - 1]), -9);
            due("endlessWhen(1, " + luck[i - 1] + ")", x.endlessWhen(1, luck[i - 1]), -9);
        }
        due("endlessWhen(0, 9)", x.endlessWhen(0, 9), 3);
        due("endlessWhen(1, 19)", x.endlessWhen(1, 19), 3);
        x.set(1, 4);
        due("endless(2, 3)", x.endless(2, 3), 3);
        due("endless(2, 4)", x.endless(2, 4), -9);
        due("endlessWhen(2, 3)", x.endlessWhen(2, 3), -9);
        due("endlessWhen(2, 4)", x.endlessWhen(2, 4), 1);
        due("endlessWhen(2, 5)", x.endlessWhen(2, 5), 2);
        refused("endless(3, 0)", x, 2, x.endless(3, 0), 0);
        refused("endless(-1, 1)", x, 2, x.endless(-1, 1), 1);
        refused("endless(2, 0)", x, 4, x.endless(2, 0), 0);
        refused("endless(2, 201)", x, 6, x.endless(2, 201), 0);
        refused("endlessWhen(7, 0)", x, 2, x.endlessWhen(7, 0), 2);
        refused("endlessWhen(0, 0)", x, 4, x.endlessWhen(0, 0), 1);
        refused("endlessWhen(0, 1501)", x, 6, x.endlessWhen(0, 1501), 1);
    }

    private static void promise23() {
        EachSecondStruck x = new EachSecondStruck();
        for (int k = 2; k <= 5; k++) {
            for (int i = 1; i <= 20; i++) {
                due("powers(" + k + ", " + i + ")", x.powers(k, i), struckAndAdded(k, i));
            }
        }
        refused("powers(1, 21)", x, 4, x.powers(1, 21), 0);
        refused("powers(6, 0)", x, 4, x.powers(6, 0), 1);
        refused("powers(6, 1)", x, 6, x.powers(6, 1), 0);
        refused("powers(2, 21)", x, 6, x.powers(2, 21), 1);
    }

    private static long struckAndAdded(int k, int i) {
        long[] numbers = new long[i * k];
        for (int j = 0; j < numbers.length; j++) {
            numbers[j] = j + 1;
        }
        int length = numbers.length;
        for (int each = k; each >= 2; each--) {
            int left = 0;
            long sum = 0;
            for (int j = 0; j < length; j++) {
                if ((j + 1) % each != 0) {
                    sum += numbers[j];
                    numbers[left] = sum;
                    left++;
                }
            }
            length = left;
        }
        return numbers[i - 1];
    }

    private static void fraction(EachSecondStruck x, int n, long above, long below) {
        due("throwsBy(" + n + ", 0)", x.throwsBy(n, 0), above);
        due("throwsBy(" + n + ", 1)", x.throwsBy(n, 1), below);
    }

    private static void promise24() {
        EachSecondStruck x = Due.by("n5;s03;");
        fraction(x, 0, 1, 1);
        fraction(x, 12, 1, 13);
        x.round();
        x.round();
        fraction(x, 2, 3, 5);
        x.set(0, 3);
        fraction(x, 3, 1, 2);
        x.set(0, 5);
        fraction(x, 12, 1, 5);
        x.set(0, 2);
        fraction(x, 2, 4, 9);
        x.set(1, 9);
        fraction(x, 12, 68719476736L, 282429536481L);
        x.set(0, 6);
        fraction(x, 12, 1, 4096);
        for (int kind = 1; kind <= 4; kind += 3) {
            x.set(0, kind);
            due("throwsBy(-1, 2)", x.throwsBy(-1, 2), LONG + 2);
            due("throwsBy(-1, -1)", x.throwsBy(-1, -1), LONG + 2);
            due("throwsBy(-1, 0)", x.throwsBy(-1, 0), LONG + 4);
            due("throwsBy(13, 1)", x.throwsBy(13, 1), LONG + 6);
            due("throwsBy(1, 1)", x.throwsBy(1, 1), LONG + 3);
        }
        due("refusals -2", x.count(12), 4);
        due("refusals -3", x.count(13), 2);
        due("refusals -4", x.count(14), 2);
        due("refusals -6", x.count(16), 2);
    }

    private static void judging() {
        promises25and29();
        promise26();
        promise27();
        promise28();
    }

    private static void promises25and29() {
        EachSecondStruck x = new EachSecondStruck();
        due("clear() of none", x.clear(), 0);
        due("tell(1)", x.tell(1), 1);
        due("tell(120)", x.tell(120), 2);
        refused("tell(0)", x, 4, x.tell(0), 0);
        refused("tell(121)", x, 6, x.tell(121), 0);
        for (int i = 3; i <= 24; i++) {
            due("tell " + i, x.tell(1), i);
        }
        refused("tell(1) as the 25th", x, 6, x.tell(1), 1);
        refused("tell(0) as the 25th", x, 4, x.tell(0), 1);
        due("count(7)", x.count(7), 24);
        due("clear()", x.clear(), 24);
        due("count(7)", x.count(7), 0);
    }

    private static void judged(EachSecondStruck x, int want, int... numbers) {
        Due.tell(x, numbers);
        due("judge() of " + numbers.length, x.judge(), want);
        due("count(7) behind judge()", x.count(7), 0);
    }

    private static void promise26() {
        EachSecondStruck x = Due.by("n6;x1,5;");
        x.round();
        judged(x, -9, 5, 3, 1);
        judged(x, 0);
        judged(x, 0, 1, 3, 5);
        judged(x, 2, 5, 3);
        judged(x, 2, 5, 3, 5, 1);
        judged(x, 3, 5, 3, 1, 1);
        judged(x, 1, 5, 5);
        x = Due.by("n1;s52;");
        x.round();
        judged(x, -9);
        judged(x, 0, 1);
    }

    private static void found(String row, int want, int... numbers) {
        EachSecondStruck x = Due.by(row);
        Due.tell(x, numbers);
        due("find() by " + row, x.find(), want);
        due("find() again by " + row, x.find(), want);
        due("count(7) behind find()", x.count(7), numbers.length);
    }

    private static void promise27() {
        found("n10;s29;x1,2;", 0, 1, 3, 7);
        found("n10;", 10, 1, 3, 7, 9);
        found("n10;", 22, 1);
        found("n10;", 23, 1, 2);
        found("n10;", 29, 1, 2, 3, 4, 5, 6, 7, 8);
        found("n12;", 30, 3, 5, 9);
        found("n10;", 50);
        found("n12;", 60, 11);
        found("n10;", -9, 2);
        found("n10;", -9, 3, 1, 7);
        found("n10;", -9, 1, 3, 7, 7);
        EachSecondStruck x = Due.by("n10;s43;t2;t3;");
        x.round();
        Due.tell(x, 1, 3, 7);
        String before = Due.state(x);
        due("find() behind a round", x.find(), 0);
        due("find() changed something", Due.state(x).equals(before) ? 0 : 1, 0);
    }

    private static void pairs(String row, int many, int first, int... numbers) {
        EachSecondStruck x = Due.by(row);
        Due.tell(x, numbers);
        String before = Due.state(x);
        due("seen(0) by " + row, x.seen(0), many);
        due("seen(1) by " + row, x.seen(1), first);
        due("seen() changed something", Due.state(x).equals(before) ? 0 : 1, 0);
    }

    private static void promise28() {
        pairs("n4;", 1, 2004, 1, 3);
        pairs("n4;x1,4;", 1, 1003, 3, 1);
        pairs("n4;", 1, 2003, 1, 2);
        pairs("n4;", 0, -9, 2, 1);
        pairs("n4;", 0, -9);
        pairs("n4;s52;", 6, 1002);
        pairs("n3;s12;", 1, 1003, 3);
        pairs("n3;s12;", 1, 1002, 2, 3);
        pairs("n3;s12;", 1, 2003, 1);
        pairs("n1;", 0, -9, 1);
        pairs("n40;s52;", 780, 1002);
        EachSecondStruck x = Due.by("n41;");
        refused("seen(2)", x, 2, x.seen(2), 0);
        refused("seen(-1)", x, 2, x.seen(-1), 1);
        refused("seen(0)", x, 6, x.seen(0), 0);
        refused("seen(1)", x, 6, x.seen(1), 1);
    }

    private static void keeping() {
        promise30();
        promises31and32();
        promise33();
    }

    private static void promise30() {
        EachSecondStruck x = new EachSecondStruck();
        // z = 0: 12345, cut 0, COUNT 2: 10 go
        due("seeds(1, 0)", x.seeds(1, 0), 10);
        // z = 1: 1103527590, cut 16838, modulo 8 is 6, COUNT 8: 2 go
        due("seeds(1, 1)", x.seeds(1, 1), 18);
        // z = -1: -1103502900, without the sign's bit 1043980748, cut 15929, COUNT 3: 6 go
        due("seeds(1, -1)", x.seeds(1, -1), 14);
        due("seeds(5, 9)", x.seeds(5, 9), 7);
        x.set(0, 5);
        due("seeds(1, 1) by FIRSTS", x.seeds(1, 1), 18);
        refused("seeds(0, 1)", x, 4, x.seeds(0, 1), 0);
        refused("seeds(31, 1)", x, 6, x.seeds(31, 1), 0);
        due("count(1)", x.count(1), 20);
        due("count(2)", x.count(2), 0);
    }

    private static void promises31and32() {
        EachSecondStruck x = Due.by("n12;s43;t2;t3;x1,5;");
        x.round();
        String before = Due.state(x);
        due("image()", x.image(), 6);
        x.round();
        Due.row(x, "n30;s05;t4;x1,2;");
        x.feed('n');
        x.tell(4);
        x.left(0);
        due("restore()", x.restore(), 6);
        due("letters stay", x.count(6), 1);
        due("the told ROW stays", x.count(7), 1);
        due("refusals stay", x.count(14), 1);
        x.row();
        x.clear();
        due("restored as it was", Due.state(x).equals(before) ? 0 : 1, 0);
        x.round();
        due("restore() again", x.restore(), 6);
        due("restored as it was", Due.state(x).equals(before) ? 0 : 1, 0);
        x.round();
        due("image() anew", x.image(), 4);
        due("restore() the new one", x.restore(), 4);
    }

    private static void promise33() {
        EachSecondStruck x = Due.by("n12;s43;t2;t3;");
        x.round();
        x.tell(1);
        x.tell(2);
        x.feed('q');
        int[] counts = {12, 6, 1, 4, 3, 2, 1, 2, 1, -9, -9, 0, 0, 0, 0, 0, 0, -9};
        for (int what = 0; what < counts.length; what++) {
            due("count(" + what + ")", x.count(what), counts[what]);
        }
        due("count(-1)", x.count(-1), -9);
        due("count(-2147483648)", x.count(Integer.MIN_VALUE), -9);
        x.place(0);
        x.gap(2);
        x.restore();
        x.left(0);
        x.near(121);
        for (int what = 11; what <= 16; what++) {
            due("count(" + what + ")", x.count(what), what == 15 ? 0 : 1);
        }
    }
}
