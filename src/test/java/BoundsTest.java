import java.util.function.Supplier;

/** Call by call: the last value that is still taken and the first that is refused, on both sides. */
public final class BoundsTest {
    private static final Due DUE = new Due();
    private static final Twins TWINS = new Twins(DUE);
    private static final int LEAST = Integer.MIN_VALUE;
    private static final int MOST = Integer.MAX_VALUE;

    private BoundsTest() {
    }

    public static void main(String[] args) {
        beginning();
        standing();
        inMind();
        apart();
        toldRow();
        keeping();
        DUE.end();
    }

    private static void due(String call, long got, long want) {
        DUE.is(call, got, want);
    }

    /** An object of which all calls were taken. */
    private static void noneRefused(String call, EachSecondStruck x) {
        for (int what = 11; what <= 16; what++) {
            due(call + ", count(" + what + ")", x.count(what), 0);
        }
    }

    private static EachSecondStruck oneRound() {
        EachSecondStruck x = new EachSecondStruck();
        x.round();
        return x;
    }

    private static void beginning() {
        feedTakes0To255();
        feedTakes48();
        setTakesWhat0And1();
        setTakesKinds0To6();
        setTakesFigures2To9();
        stepTakes2To9();
        stepTakes8();
        swapTakesNumbers();
        swapTakesRound0();
    }

    private static void feedTakes0To255() {
        EachSecondStruck x = new EachSecondStruck();
        due("feed(0)", x.feed(0), 1);
        due("feed(255)", x.feed(255), 2);
        noneRefused("feed", x);
        TWINS.refuse("feed(-1)", 4, y -> y.feed(-1));
        TWINS.refuse("feed(LEAST)", 4, y -> y.feed(LEAST));
        TWINS.refuse("feed(256)", 6, y -> y.feed(256));
        TWINS.refuse("feed(MOST)", 6, y -> y.feed(MOST));
    }

    private static EachSecondStruck fullOfLetters() {
        EachSecondStruck x = new EachSecondStruck();
        Due.feed(x, "n9;n9;n9;n9;n9;n9;n9;n9;n9;n9;n9;n9;n9;n9;n9;n7;");
        return x;
    }

    private static void feedTakes48() {
        EachSecondStruck x = new EachSecondStruck();
        due("count(6) of none", x.count(6), 0);
        for (int many = 1; many <= 48; many++) {
            due("feed(" + many + ")", x.feed('s'), many);
            due("count(6)", x.count(6), many);
        }
        noneRefused("48 letters", x);
        TWINS.refuseIn("48 letters: ", BoundsTest::fullOfLetters, "feed(;)", 6, y -> y.feed(';'));
        TWINS.refuseIn("48 letters: ", BoundsTest::fullOfLetters, "feed(0)", 6, y -> y.feed(0));
        x = fullOfLetters();
        x.feed('q');
        due("count(6) behind a refused 49th", x.count(6), 48);
        due("the 48 letters are a ROW still", x.row(), 16);
        due("count(0)", x.count(0), 7);
        due("room again behind row()", x.feed('n'), 1);
    }

    private static void setTakesWhat0And1() {
        EachSecondStruck x = new EachSecondStruck();
        due("set(0, 2)", x.set(0, 2), 0);
        due("set(1, 3)", x.set(1, 3), 2);
        due("count(3)", x.count(3), 2);
        due("count(4)", x.count(4), 3);
        noneRefused("set", x);
        TWINS.refuse("set(-1, 3)", 2, y -> y.set(-1, 3));
        TWINS.refuse("set(2, 3)", 2, y -> y.set(2, 3));
        TWINS.refuse("set(LEAST, 3)", 2, y -> y.set(LEAST, 3));
        TWINS.refuse("set(MOST, 3)", 2, y -> y.set(MOST, 3));
    }

    private static void setTakesKinds0To6() {
        EachSecondStruck x = new EachSecondStruck();
        for (int kind = 0; kind <= 6; kind++) {
            due("set(0, " + kind + ")", x.set(0, kind), Math.max(kind - 1, 0));
            due("count(3)", x.count(3), kind);
        }
        due("set(0, 0)", x.set(0, 0), 6);
        noneRefused("set(0, ..)", x);
        TWINS.refuse("set(0, -1)", 2, y -> y.set(0, -1));
        TWINS.refuse("set(0, 7)", 2, y -> y.set(0, 7));
        TWINS.refuse("set(0, LEAST)", 2, y -> y.set(0, LEAST));
        TWINS.refuse("set(0, MOST)", 2, y -> y.set(0, MOST));
    }

    private static void setTakesFigures2To9() {
        EachSecondStruck x = new EachSecondStruck();
        for (int figure = 2; figure <= 9; figure++) {
            due("set(1, " + figure + ")", x.set(1, figure), Math.max(figure - 1, 2));
            due("count(4)", x.count(4), figure);
        }
        due("set(1, 2)", x.set(1, 2), 9);
        noneRefused("set(1, ..)", x);
        TWINS.refuse("set(1, 1)", 4, y -> y.set(1, 1));
        TWINS.refuse("set(1, LEAST)", 4, y -> y.set(1, LEAST));
        TWINS.refuse("set(1, 10)", 6, y -> y.set(1, 10));
        TWINS.refuse("set(1, MOST)", 6, y -> y.set(1, MOST));
    }

    private static void stepTakes2To9() {
        EachSecondStruck x = new EachSecondStruck();
        due("step(2)", x.step(2), 1);
        due("step(9)", x.step(9), 2);
        noneRefused("step", x);
        TWINS.refuse("step(1)", 4, y -> y.step(1));
        TWINS.refuse("step(LEAST)", 4, y -> y.step(LEAST));
        TWINS.refuse("step(10)", 6, y -> y.step(10));
        TWINS.refuse("step(MOST)", 6, y -> y.step(MOST));
    }

    private static EachSecondStruck fullOfSteps() {
        EachSecondStruck x = Due.by("s42;t2;t3;t4;t5;t6;t7;t8;");
        due("the 8th STEP", x.step(9), 8);
        noneRefused("8 STEPS", x);
        return x;
    }

    private static void stepTakes8() {
        EachSecondStruck x = new EachSecondStruck();
        due("count(5) of none", x.count(5), 0);
        for (int many = 1; many <= 8; many++) {
            due("step", x.step(2), many);
            due("count(5)", x.count(5), many);
        }
        noneRefused("8 STEPS", x);
        TWINS.refuseIn("8 STEPS: ", BoundsTest::fullOfSteps, "step(2)", 6, y -> y.step(2));
        TWINS.refuseIn("8 STEPS: ", BoundsTest::fullOfSteps, "step(9)", 6, y -> y.step(9));
        Due.row(x, "n9;");
        due("n brings no room for a STEP", x.step(2), -6);
    }

    private static void swapTakesNumbers() {
        EachSecondStruck x = new EachSecondStruck();
        due("swap(1, 20)", x.swap(1, 20), 1);
        due("left(1)", x.left(1), 20);
        due("left(20)", x.left(20), 1);
        due("swap(20, 1)", x.swap(20, 1), 1);
        due("left(1)", x.left(1), 1);
        noneRefused("swap", x);
        TWINS.refuse("swap(0, 2)", 1, y -> y.swap(0, 2));
        TWINS.refuse("swap(2, 0)", 1, y -> y.swap(2, 0));
        TWINS.refuse("swap(21, 2)", 1, y -> y.swap(21, 2));
        TWINS.refuse("swap(2, 21)", 1, y -> y.swap(2, 21));
        TWINS.refuse("swap(LEAST, 2)", 1, y -> y.swap(LEAST, 2));
        TWINS.refuse("swap(2, MOST)", 1, y -> y.swap(2, MOST));
        TWINS.refuse("swap(1, 1)", 1, y -> y.swap(1, 1));
        TWINS.refuse("swap(20, 20)", 1, y -> y.swap(20, 20));
        Supplier<EachSecondStruck> alone = () -> Due.by("n1;");
        TWINS.refuseIn("one alone: ", alone, "swap(1, 2)", 1, y -> y.swap(1, 2));
        TWINS.refuseIn("one alone: ", alone, "swap(1, 1)", 1, y -> y.swap(1, 1));
        x = Due.by("n120;");
        due("swap(119, 120)", x.swap(119, 120), 1);
        due("swap(120, 121)", x.swap(120, 121), -1);
        due("left(119)", x.left(119), 120);
    }

    private static void swapTakesRound0() {
        TWINS.refuseIn("ROUND 1: ", BoundsTest::oneRound, "swap(1, 3)", 3, y -> y.swap(1, 3));
        TWINS.refuseIn("ROUND 1: ", BoundsTest::oneRound, "swap(2, 4), both gone", 3, y -> y.swap(2, 4));
        Supplier<EachSecondStruck> nobodyWent = () -> {
            EachSecondStruck x = Due.by("n3;s29;");
            x.round();
            return x;
        };
        TWINS.refuseIn("ROUND 1, nobody went: ", nobodyWent, "swap(1, 2)", 3, y -> y.swap(1, 2));
        EachSecondStruck x = new EachSecondStruck();
        x.image();
        x.round();
        x.restore();
        due("swap behind ROUND 0 came back", x.swap(1, 2), 1);
        x.round();
        Due.row(x, "n20;");
        due("swap behind n", x.swap(1, 2), 1);
        noneRefused("swap at ROUND 0", x);
    }

    private static void standing() {
        roundTakes999();
        leftTakes1();
        placeTakesNumbers();
    }

    private static EachSecondStruck atRound(int round) {
        EachSecondStruck x = Due.by("n3;");
        // more calls than an object is promised for: the bound is told all the same
        for (int i = 0; i < round; i++) {
            x.round();
        }
        return x;
    }

    private static void roundTakes999() {
        EachSecondStruck x = atRound(998);
        due("count(2)", x.count(2), 998);
        due("next() at 998", x.next(), 1000);
        due("the 999th round()", x.round(), 0);
        due("count(2)", x.count(2), 999);
        due("next() at 999", x.next(), 1001);
        noneRefused("999 ROUNDS", x);
        TWINS.refuseIn("ROUND 999: ", () -> atRound(999), "round()", 6, y -> y.round());
        due("rounds() at 999", x.rounds(), 0);
        due("behind(1, 60) at 999", x.behind(1, 60), 1);
        due("n at 999", Due.row(x, "n4;"), 1);
        due("round() behind n", x.round(), 2);
    }

    private static void leftTakes1() {
        EachSecondStruck x = new EachSecondStruck();
        due("left(1)", x.left(1), 1);
        due("left(20)", x.left(20), 20);
        due("left(21)", x.left(21), -9);
        due("left(MOST)", x.left(MOST), -9);
        x.round();
        due("left(10)", x.left(10), 19);
        due("left(11)", x.left(11), -9);
        noneRefused("left", x);
        TWINS.refuse("left(0)", 4, y -> y.left(0));
        TWINS.refuse("left(-1)", 4, y -> y.left(-1));
        TWINS.refuse("left(LEAST)", 4, y -> y.left(LEAST));
        x = Due.by("n120;");
        due("left(120)", x.left(120), 120);
        due("left(121)", x.left(121), -9);
    }

    private static void placeTakesNumbers() {
        EachSecondStruck x = oneRound();
        due("place(1)", x.place(1), 1);
        due("place(19)", x.place(19), 10);
        due("place(20), gone", x.place(20), -9);
        noneRefused("place", x);
        TWINS.refuse("place(0)", 1, y -> y.place(0));
        TWINS.refuse("place(21)", 1, y -> y.place(21));
        TWINS.refuse("place(LEAST)", 1, y -> y.place(LEAST));
        TWINS.refuse("place(MOST)", 1, y -> y.place(MOST));
        x = Due.by("n120;");
        due("place(120)", x.place(120), 120);
        due("place(121)", x.place(121), -1);
        Due.row(x, "n3;");
        due("place(3) of three", x.place(3), 3);
        due("place(4) of three", x.place(4), -1);
    }

    private static void inMind() {
        whenTakesNumbers();
        behindTakesNumbers();
        behindTakes0To60();
        staysAndGoesTake0();
        besideTakesNumbers();
        gapTakesWhat0And1();
        nearTakes0To120();
        byOtherTakesKinds0To6();
    }

    private static void whenTakesNumbers() {
        EachSecondStruck x = new EachSecondStruck();
        due("when(1)", x.when(1), -9);
        due("when(20)", x.when(20), 1);
        noneRefused("when", x);
        TWINS.refuse("when(0)", 1, y -> y.when(0));
        TWINS.refuse("when(21)", 1, y -> y.when(21));
        TWINS.refuse("when(LEAST)", 1, y -> y.when(LEAST));
        TWINS.refuse("when(MOST)", 1, y -> y.when(MOST));
        x = Due.by("n120;");
        due("when(120)", x.when(120), 1);
        due("when(121)", x.when(121), -1);
    }

    private static void behindTakesNumbers() {
        EachSecondStruck x = new EachSecondStruck();
        due("behind(1, 1)", x.behind(1, 1), 1);
        due("behind(20, 0)", x.behind(20, 0), 20);
        due("behind(20, 1)", x.behind(20, 1), -9);
        noneRefused("behind", x);
        TWINS.refuse("behind(0, 1)", 1, y -> y.behind(0, 1));
        TWINS.refuse("behind(21, 1)", 1, y -> y.behind(21, 1));
        TWINS.refuse("behind(LEAST, 1)", 1, y -> y.behind(LEAST, 1));
        TWINS.refuse("behind(MOST, 1)", 1, y -> y.behind(MOST, 1));
        x = Due.by("n120;");
        due("behind(120, 0)", x.behind(120, 0), 120);
        due("behind(121, 0)", x.behind(121, 0), -1);
    }

    private static void behindTakes0To60() {
        // eight STEPS with one small one draw the going out to ROUND 52
        EachSecondStruck x = Due.by("n120;s42;t9;t9;t9;t5;t9;t9;t9;t9;");
        EachSecondStruck y = Due.by("n120;s42;t9;t9;t9;t5;t9;t9;t9;t9;");
        int last = x.goes(115);
        due("when(last)", x.when(last), 52);
        due("behind(last, 51)", x.behind(last, 51), 5);
        due("behind(last, 52)", x.behind(last, 52), -9);
        for (int n = 0; n <= 60; n++) {
            due("behind(last, " + n + ")", x.behind(last, n), y.place(last));
            due("behind(4, " + n + ")", x.behind(4, n), y.place(4));
            y.round();
        }
        due("behind(1, 0)", x.behind(1, 0), 1);
        due("behind(1, 60)", x.behind(1, 60), 1);
        noneRefused("behind", x);
        TWINS.refuse("behind(1, -1)", 4, z -> z.behind(1, -1));
        TWINS.refuse("behind(1, LEAST)", 4, z -> z.behind(1, LEAST));
        TWINS.refuse("behind(1, 61)", 6, z -> z.behind(1, 61));
        TWINS.refuse("behind(1, MOST)", 6, z -> z.behind(1, MOST));
    }

    private static void staysAndGoesTake0() {
        EachSecondStruck x = new EachSecondStruck();
        due("stays(0)", x.stays(0), 1);
        due("stays(4), the last", x.stays(4), 19);
        due("stays(5)", x.stays(5), -9);
        due("stays(MOST)", x.stays(MOST), -9);
        due("goes(0)", x.goes(0), 2);
        due("goes(14), the last", x.goes(14), 15);
        due("goes(15)", x.goes(15), -9);
        due("goes(MOST)", x.goes(MOST), -9);
        noneRefused("stays, goes", x);
        TWINS.refuse("stays(-1)", 4, y -> y.stays(-1));
        TWINS.refuse("stays(LEAST)", 4, y -> y.stays(LEAST));
        TWINS.refuse("goes(-1)", 4, y -> y.goes(-1));
        TWINS.refuse("goes(LEAST)", 4, y -> y.goes(LEAST));
        x = Due.by("n120;s52;");
        due("stays(0), nobody stays", x.stays(0), -9);
        due("goes(119), all go", x.goes(119) > 0 ? 1 : 0, 1);
        due("goes(120)", x.goes(120), -9);
    }

    private static void besideTakesNumbers() {
        EachSecondStruck x = new EachSecondStruck();
        due("beside(1)", x.beside(1), 3);
        due("beside(20), it goes", x.beside(20), -9);
        due("beside(19), nobody behind", x.beside(19), -9);
        noneRefused("beside", x);
        TWINS.refuse("beside(0)", 1, y -> y.beside(0));
        TWINS.refuse("beside(21)", 1, y -> y.beside(21));
        TWINS.refuse("beside(LEAST)", 1, y -> y.beside(LEAST));
        TWINS.refuse("beside(MOST)", 1, y -> y.beside(MOST));
        x = Due.by("n120;s12;x115,120;");
        due("beside(111)", x.beside(111), 120);
        due("beside(120), the last", x.beside(120), -9);
        due("beside(121)", x.beside(121), -1);
    }

    private static void gapTakesWhat0And1() {
        EachSecondStruck x = new EachSecondStruck();
        due("gap(0)", x.gap(0), 6);
        due("gap(1)", x.gap(1), 7);
        noneRefused("gap", x);
        TWINS.refuse("gap(-1)", 2, y -> y.gap(-1));
        TWINS.refuse("gap(2)", 2, y -> y.gap(2));
        TWINS.refuse("gap(LEAST)", 2, y -> y.gap(LEAST));
        TWINS.refuse("gap(MOST)", 2, y -> y.gap(MOST));
    }

    private static void nearTakes0To120() {
        EachSecondStruck x = Due.by("n120;x1,120;");
        due("near(0)", x.near(0), 0);
        due("near(1)", x.near(1), 0);
        due("near(2)", x.near(2), 0);
        due("near(3), it counts itself", x.near(3), 1);
        due("near(109)", x.near(109), 11);
        due("near(119)", x.near(119), 11);
        due("near(120)", x.near(120), 12);
        noneRefused("near", x);
        TWINS.refuse("near(-1)", 4, y -> y.near(-1));
        TWINS.refuse("near(LEAST)", 4, y -> y.near(LEAST));
        TWINS.refuse("near(121)", 6, y -> y.near(121));
        TWINS.refuse("near(MOST)", 6, y -> y.near(MOST));
        x = Due.by("n3;");
        due("near(120) of three", x.near(120), 2);
        due("near(121) of three", x.near(121), -6);
    }

    private static void byOtherTakesKinds0To6() {
        EachSecondStruck x = new EachSecondStruck();
        int[] stay = {5, 6, 1, 5, 1, 0, 1};
        for (int kind = 0; kind <= 6; kind++) {
            due("byOther(" + kind + ")", x.byOther(kind), stay[kind]);
        }
        noneRefused("byOther", x);
        TWINS.refuse("byOther(-1)", 2, y -> y.byOther(-1));
        TWINS.refuse("byOther(7)", 2, y -> y.byOther(7));
        TWINS.refuse("byOther(LEAST)", 2, y -> y.byOther(LEAST));
        TWINS.refuse("byOther(MOST)", 2, y -> y.byOther(MOST));
    }

    private static void apart() {
        endlessTakesKinds0To2();
        endlessTakes1To200();
        endlessWhenTakes1To1500();
        powersTakes2To5();
        powersTakes1To20();
        throwsByTakesParts0And1();
        throwsByTakes0To12();
        throwsByTakesKinds();
    }

    private static void endlessTakesKinds0To2() {
        EachSecondStruck x = new EachSecondStruck();
        for (int kind = 0; kind <= 2; kind++) {
            due("endless(" + kind + ", 1)", x.endless(kind, 1), 1);
            due("endlessWhen(" + kind + ", 1)", x.endlessWhen(kind, 1), -9);
        }
        noneRefused("endless", x);
        for (int kind : new int[] {LEAST, -1, 3, 4, 5, 6, 7, MOST}) {
            TWINS.refuse("endless(" + kind + ", 1)", 2, y -> y.endless(kind, 1));
            TWINS.refuse("endlessWhen(" + kind + ", 1)", 2, y -> y.endlessWhen(kind, 1));
        }
    }

    private static void endlessTakes1To200() {
        EachSecondStruck x = new EachSecondStruck();
        due("endless(0, 1)", x.endless(0, 1), 1);
        due("endless(0, 200)", x.endless(0, 200), 31483);
        due("endless(1, 200)", x.endless(1, 200), 1369);
        due("endless(2, 1)", x.endless(2, 1), 1);
        due("endless(2, 2), not so many", x.endless(2, 2), -9);
        due("endless(2, 200), not so many", x.endless(2, 200), -9);
        x.set(1, 9);
        due("endless(2, 8), the last", x.endless(2, 8), 8);
        due("endless(2, 9), not so many", x.endless(2, 9), -9);
        noneRefused("endless", x);
        for (int kind = 0; kind <= 2; kind++) {
            int by = kind;
            TWINS.refuse("endless(" + by + ", 0)", 4, y -> y.endless(by, 0));
            TWINS.refuse("endless(" + by + ", LEAST)", 4, y -> y.endless(by, LEAST));
            TWINS.refuse("endless(" + by + ", 201)", 6, y -> y.endless(by, 201));
            TWINS.refuse("endless(" + by + ", MOST)", 6, y -> y.endless(by, MOST));
        }
    }

    private static void endlessWhenTakes1To1500() {
        EachSecondStruck x = new EachSecondStruck();
        for (int kind = 0; kind <= 2; kind++) {
            due("endlessWhen(" + kind + ", 1)", x.endlessWhen(kind, 1), -9);
            due("endlessWhen(" + kind + ", 2)", x.endlessWhen(kind, 2), 1);
            due("endlessWhen(" + kind + ", 1500)", x.endlessWhen(kind, 1500), 1);
            int by = kind;
            TWINS.refuse("endlessWhen(" + by + ", 0)", 4, y -> y.endlessWhen(by, 0));
            TWINS.refuse("endlessWhen(" + by + ", LEAST)", 4, y -> y.endlessWhen(by, LEAST));
            TWINS.refuse("endlessWhen(" + by + ", 1501)", 6, y -> y.endlessWhen(by, 1501));
            TWINS.refuse("endlessWhen(" + by + ", MOST)", 6, y -> y.endlessWhen(by, MOST));
        }
        // 9 is on PLACES 9, 5, 4 and 19 on PLACES 19, 10, 7: they go in ROUND 3
        due("endlessWhen(0, 9)", x.endlessWhen(0, 9), 3);
        due("endlessWhen(1, 19)", x.endlessWhen(1, 19), 3);
        x.set(1, 3);
        // 4 is on PLACES 4, 3
        due("endlessWhen(2, 4), FIGURE 3", x.endlessWhen(2, 4), 2);
        due("endlessWhen(2, 2), FIGURE 3", x.endlessWhen(2, 2), -9);
        due("endlessWhen(2, 1500), FIGURE 3", x.endlessWhen(2, 1500), 1);
        noneRefused("endlessWhen", x);
    }

    private static void powersTakes2To5() {
        EachSecondStruck x = new EachSecondStruck();
        due("powers(2, 20)", x.powers(2, 20), 400);
        due("powers(5, 3)", x.powers(5, 3), 243);
        noneRefused("powers", x);
        TWINS.refuse("powers(1, 3)", 4, y -> y.powers(1, 3));
        TWINS.refuse("powers(LEAST, 3)", 4, y -> y.powers(LEAST, 3));
        TWINS.refuse("powers(6, 3)", 6, y -> y.powers(6, 3));
        TWINS.refuse("powers(MOST, 3)", 6, y -> y.powers(MOST, 3));
    }

    private static void powersTakes1To20() {
        EachSecondStruck x = new EachSecondStruck();
        due("powers(5, 1)", x.powers(5, 1), 1);
        due("powers(5, 20)", x.powers(5, 20), 3200000);
        noneRefused("powers", x);
        TWINS.refuse("powers(3, 0)", 4, y -> y.powers(3, 0));
        TWINS.refuse("powers(3, LEAST)", 4, y -> y.powers(3, LEAST));
        TWINS.refuse("powers(3, 21)", 6, y -> y.powers(3, 21));
        TWINS.refuse("powers(3, MOST)", 6, y -> y.powers(3, MOST));
    }

    private static EachSecondStruck richBy(int kind) {
        EachSecondStruck x = Twins.rich();
        x.set(0, kind);
        return x;
    }

    private static void throwsByTakesParts0And1() {
        EachSecondStruck x = new EachSecondStruck();
        due("throwsBy(1, 0)", x.throwsBy(1, 0), 1);
        due("throwsBy(1, 1)", x.throwsBy(1, 1), 2);
        noneRefused("throwsBy", x);
        for (int part : new int[] {LEAST, -1, 2, MOST}) {
            TWINS.refuse("throwsBy(1, " + part + ")", 2, y -> y.throwsBy(1, part));
        }
    }

    private static void throwsByTakes0To12() {
        EachSecondStruck x = new EachSecondStruck();
        due("throwsBy(0, 0)", x.throwsBy(0, 0), 1);
        due("throwsBy(0, 1)", x.throwsBy(0, 1), 1);
        due("throwsBy(12, 0)", x.throwsBy(12, 0), 1);
        due("throwsBy(12, 1)", x.throwsBy(12, 1), 13);
        x.round();
        x.round();
        // from ROUND 3 on: 3 of 4, 4 of 5, 5 of 6 are 1 of 2 in least terms
        due("throwsBy(3, 0) at ROUND 2", x.throwsBy(3, 0), 1);
        due("throwsBy(3, 1) at ROUND 2", x.throwsBy(3, 1), 2);
        x.set(0, 2);
        x.set(1, 9);
        // 8 of 9, twelve times
        due("throwsBy(12, 0), SAME 9", x.throwsBy(12, 0), 68719476736L);
        due("throwsBy(12, 1), SAME 9", x.throwsBy(12, 1), 282429536481L);
        noneRefused("throwsBy", x);
        for (int part = 0; part <= 1; part++) {
            int of = part;
            TWINS.refuse("throwsBy(-1, " + of + ")", 4, y -> y.throwsBy(-1, of));
            TWINS.refuse("throwsBy(LEAST, " + of + ")", 4, y -> y.throwsBy(LEAST, of));
            TWINS.refuse("throwsBy(13, " + of + ")", 6, y -> y.throwsBy(13, of));
            TWINS.refuse("throwsBy(MOST, " + of + ")", 6, y -> y.throwsBy(MOST, of));
        }
    }

    private static void throwsByTakesKinds() {
        for (int kind : new int[] {0, 2, 3, 5, 6}) {
            EachSecondStruck x = Due.by("n1;s" + kind + "2;");
            due("KIND " + kind + " throwsBy(0, 0)", x.throwsBy(0, 0), 1);
            due("KIND " + kind + " throwsBy(12, 0)", x.throwsBy(12, 0), 1);
            due("KIND " + kind + " throwsBy(12, 1)", x.throwsBy(12, 1), kind == 2 || kind == 6 ? 4096 : 13);
            noneRefused("KIND " + kind, x);
        }
        for (int kind : new int[] {1, 4}) {
            Supplier<EachSecondStruck> by = () -> richBy(kind);
            TWINS.refuseIn("KIND " + kind + ": ", by, "throwsBy(0, 0)", 3, y -> y.throwsBy(0, 0));
            TWINS.refuseIn("KIND " + kind + ": ", by, "throwsBy(12, 1)", 3, y -> y.throwsBy(12, 1));
        }
    }

    private static void toldRow() {
        tellTakes1To120();
        tellTakes24();
        seenTakesWhat0And1();
        seenTakesNTo40();
    }

    private static void tellTakes1To120() {
        EachSecondStruck x = Due.by("n3;");
        due("tell(1)", x.tell(1), 1);
        due("tell(120), above N", x.tell(120), 2);
        noneRefused("tell", x);
        TWINS.refuse("tell(0)", 4, y -> y.tell(0));
        TWINS.refuse("tell(LEAST)", 4, y -> y.tell(LEAST));
        TWINS.refuse("tell(121)", 6, y -> y.tell(121));
        TWINS.refuse("tell(MOST)", 6, y -> y.tell(MOST));
    }

    private static EachSecondStruck fullOfTold() {
        EachSecondStruck x = Due.by("n24;");
        Twins.tellThoseLeft(x);
        return x;
    }

    private static void tellTakes24() {
        EachSecondStruck x = new EachSecondStruck();
        due("count(7) of none", x.count(7), 0);
        due("clear() of none", x.clear(), 0);
        for (int many = 1; many <= 24; many++) {
            due("tell", x.tell(7), many);
            due("count(7)", x.count(7), many);
        }
        noneRefused("24 told", x);
        TWINS.refuseIn("24 told: ", BoundsTest::fullOfTold, "tell(1)", 6, y -> y.tell(1));
        TWINS.refuseIn("24 told: ", BoundsTest::fullOfTold, "tell(120)", 6, y -> y.tell(120));
        due("clear() of 24", x.clear(), 24);
        due("room again behind clear()", x.tell(7), 1);
        x = fullOfTold();
        due("judge() of 24", x.judge(), -9);
        due("room again behind judge()", x.tell(7), 1);
    }

    private static void seenTakesWhat0And1() {
        EachSecondStruck x = Due.by("n2;");
        x.tell(2);
        due("seen(0)", x.seen(0), 1);
        due("seen(1)", x.seen(1), 1002);
        noneRefused("seen", x);
        for (int what : new int[] {LEAST, -1, 2, MOST}) {
            TWINS.refuse("seen(" + what + ")", 2, y -> y.seen(what));
        }
    }

    private static void seenTakesNTo40() {
        EachSecondStruck x = Due.by("n40;");
        Due.tell(x, 1, 3, 7, 13, 19, 27, 40);
        due("seen(0), N 40", x.seen(0), 1);
        due("seen(1), N 40", x.seen(1), 39040);
        noneRefused("seen", x);
        for (int n : new int[] {41, 120}) {
            Supplier<EachSecondStruck> many = () -> Due.by("n" + n + ";");
            TWINS.refuseIn("N " + n + ": ", many, "seen(0)", 6, y -> y.seen(0));
            TWINS.refuseIn("N " + n + ": ", many, "seen(1)", 6, y -> y.seen(1));
        }
        Supplier<EachSecondStruck> fewLeft = () -> {
            EachSecondStruck y = Due.by("n41;");
            y.round();
            return y;
        };
        TWINS.refuseIn("N 41, 21 left: ", fewLeft, "seen(0)", 6, y -> y.seen(0));
    }

    private static void keeping() {
        seedsTakes1To30();
        restoreTakesAnImage();
        countTakesWhat();
    }

    private static void seedsTakes1To30() {
        EachSecondStruck x = Due.by("n120;");
        due("seeds(1, 0)", x.seeds(1, 0), 60);
        due("seeds(30, 0)", x.seeds(30, 0) < x.seeds(1, 0) ? 1 : 0, 1);
        noneRefused("seeds", x);
        TWINS.refuse("seeds(0, 5)", 4, y -> y.seeds(0, 5));
        TWINS.refuse("seeds(LEAST, 5)", 4, y -> y.seeds(LEAST, 5));
        TWINS.refuse("seeds(31, 5)", 6, y -> y.seeds(31, 5));
        TWINS.refuse("seeds(MOST, 5)", 6, y -> y.seeds(MOST, 5));
    }

    private static void restoreTakesAnImage() {
        TWINS.refuseIn("no image: ", EachSecondStruck::new, "restore()", 3, y -> y.restore());
        TWINS.refuseIn("no image, ROUND 1: ", BoundsTest::oneRound, "restore()", 3, y -> y.restore());
        EachSecondStruck x = new EachSecondStruck();
        due("image()", x.image(), 20);
        due("restore()", x.restore(), 20);
        due("restore(), the image is there still", x.restore(), 20);
        noneRefused("restore", x);
    }

    private static void countTakesWhat() {
        for (int what : new int[] {LEAST, -1, 9, 10, 17, MOST}) {
            due("count(" + what + ")", Twins.rich().count(what), -9);
            TWINS.same("count(" + what + ")", Twins::rich, y -> y.count(what));
        }
        EachSecondStruck x = Twins.rich();
        int[] counts = {20, 10, 1, 4, 3, 3, 11, 10, 1, -9, -9, 1, 1, 1, 1, 0, 1};
        for (int what = 0; what < counts.length; what++) {
            due("count(" + what + ")", x.count(what), counts[what]);
        }
    }
}
