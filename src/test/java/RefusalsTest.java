import java.util.function.Supplier;

/** Calls that two refusals fit: the one that is told first is answered, and it alone is counted. */
public final class RefusalsTest {
    private static final Due DUE = new Due();
    private static final Twins TWINS = new Twins(DUE);

    private RefusalsTest() {
    }

    public static void main(String[] args) {
        twoFitWhereAllIsFull();
        twoFitWhereARoundWentBy();
        twoFitByNumbers();
        twoFitThrows();
        twoFitSeen();
        answersThatAreNoRefusals();
        askingChangesNothing();
        refusalsStay();
        DUE.end();
    }

    private static void due(String call, long got, long want) {
        DUE.is(call, got, want);
    }

    private static EachSecondStruck full() {
        EachSecondStruck x = Due.by("n24;s42;t2;t3;t4;t5;t6;t7;t8;t9;");
        Twins.tellThoseLeft(x);
        Due.feed(x, "n9;n9;n9;n9;n9;n9;n9;n9;n9;n9;n9;n9;n9;n9;n9;n7;");
        return x;
    }

    private static void twoFitWhereAllIsFull() {
        Supplier<EachSecondStruck> full = RefusalsTest::full;
        TWINS.refuseIn("full: ", full, "feed(-1)", 4, x -> x.feed(-1));
        TWINS.refuseIn("full: ", full, "feed(256)", 6, x -> x.feed(256));
        TWINS.refuseIn("full: ", full, "step(1)", 4, x -> x.step(1));
        TWINS.refuseIn("full: ", full, "step(10)", 6, x -> x.step(10));
        TWINS.refuseIn("full: ", full, "tell(0)", 4, x -> x.tell(0));
        TWINS.refuseIn("full: ", full, "tell(121)", 6, x -> x.tell(121));
    }

    private static void twoFitWhereARoundWentBy() {
        Supplier<EachSecondStruck> rich = Twins::rich;
        TWINS.refuseIn("ROUND 1: ", rich, "swap(0, 3)", 1, x -> x.swap(0, 3));
        TWINS.refuseIn("ROUND 1: ", rich, "swap(3, 21)", 1, x -> x.swap(3, 21));
        TWINS.refuseIn("ROUND 1: ", rich, "swap(3, 3)", 1, x -> x.swap(3, 3));
        TWINS.refuseIn("ROUND 1: ", rich, "swap(0, 21)", 1, x -> x.swap(0, 21));
    }

    private static void twoFitByNumbers() {
        TWINS.refuse("swap(0, 0)", 1, x -> x.swap(0, 0));
        TWINS.refuse("set(2, -1)", 2, x -> x.set(2, -1));
        TWINS.refuse("set(2, 10)", 2, x -> x.set(2, 10));
        TWINS.refuse("set(-1, 1)", 2, x -> x.set(-1, 1));
        TWINS.refuse("behind(0, -1)", 1, x -> x.behind(0, -1));
        TWINS.refuse("behind(21, 61)", 1, x -> x.behind(21, 61));
        TWINS.refuse("endless(3, 0)", 2, x -> x.endless(3, 0));
        TWINS.refuse("endless(-1, 201)", 2, x -> x.endless(-1, 201));
        TWINS.refuse("endlessWhen(3, 0)", 2, x -> x.endlessWhen(3, 0));
        TWINS.refuse("endlessWhen(-1, 1501)", 2, x -> x.endlessWhen(-1, 1501));
        TWINS.refuse("powers(1, 21)", 4, x -> x.powers(1, 21));
        TWINS.refuse("powers(6, 0)", 4, x -> x.powers(6, 0));
        TWINS.refuse("powers(1, 0)", 4, x -> x.powers(1, 0));
        TWINS.refuse("powers(6, 21)", 6, x -> x.powers(6, 21));
    }

    private static void twoFitThrows() {
        TWINS.refuse("throwsBy(-1, 2)", 2, x -> x.throwsBy(-1, 2));
        TWINS.refuse("throwsBy(13, -1)", 2, x -> x.throwsBy(13, -1));
        for (int kind : new int[] {1, 4}) {
            Supplier<EachSecondStruck> by = () -> Due.by("s" + kind + "2;");
            String where = "KIND " + kind + ": ";
            TWINS.refuseIn(where, by, "throwsBy(1, 2)", 2, x -> x.throwsBy(1, 2));
            TWINS.refuseIn(where, by, "throwsBy(-1, -1)", 2, x -> x.throwsBy(-1, -1));
            TWINS.refuseIn(where, by, "throwsBy(-1, 0)", 4, x -> x.throwsBy(-1, 0));
            TWINS.refuseIn(where, by, "throwsBy(13, 1)", 6, x -> x.throwsBy(13, 1));
            TWINS.refuseIn(where, by, "throwsBy(0, 0)", 3, x -> x.throwsBy(0, 0));
        }
    }

    private static void twoFitSeen() {
        Supplier<EachSecondStruck> many = () -> Due.by("n41;");
        TWINS.refuseIn("N 41: ", many, "seen(2)", 2, x -> x.seen(2));
        TWINS.refuseIn("N 41: ", many, "seen(-1)", 2, x -> x.seen(-1));
        TWINS.refuseIn("N 41: ", many, "seen(0)", 6, x -> x.seen(0));
    }

    private static EachSecondStruck nobodyLeft() {
        EachSecondStruck x = Due.by("n1;s52;");
        x.round();
        return x;
    }

    /** -9 and the FAULTS are answers: nothing is counted. */
    private static void answersThatAreNoRefusals() {
        EachSecondStruck x = nobodyLeft();
        x.tell(1);
        long[] none = {
            x.left(1), x.place(1), x.behind(1, 0), x.stays(0), x.goes(0), x.beside(1), x.gap(0), x.gap(1),
            x.friends(), x.endless(2, 2), x.endlessWhen(0, 1), x.seen(1), x.count(9), x.count(-1)
        };
        for (int i = 0; i < none.length; i++) {
            due("answer " + i + " of none", none[i], -9);
        }
        due("row() of none", x.row(), -1000);
        due("row of a wrong statement", Due.row(x, "n0;"), -2000);
        for (int what = 11; what <= 16; what++) {
            due("count(" + what + ")", x.count(what), 0);
        }
    }

    /** What is told in mind and apart leaves all as it is. */
    private static void askingChangesNothing() {
        Supplier<EachSecondStruck> rich = Twins::rich;
        TWINS.same("next()", rich, EachSecondStruck::next);
        TWINS.same("left(2)", rich, x -> x.left(2));
        TWINS.same("place(3)", rich, x -> x.place(3));
        TWINS.same("when(3)", rich, x -> x.when(3));
        TWINS.same("behind(3, 60)", rich, x -> x.behind(3, 60));
        TWINS.same("rounds()", rich, EachSecondStruck::rounds);
        TWINS.same("stays(0)", rich, x -> x.stays(0));
        TWINS.same("goes(0)", rich, x -> x.goes(0));
        TWINS.same("beside(1)", rich, x -> x.beside(1));
        TWINS.same("gap(0)", rich, x -> x.gap(0));
        TWINS.same("near(120)", rich, x -> x.near(120));
        TWINS.same("friends()", rich, EachSecondStruck::friends);
        TWINS.same("byOther(5)", rich, x -> x.byOther(5));
        TWINS.same("endless(2, 200)", rich, x -> x.endless(2, 200));
        TWINS.same("endlessWhen(1, 1499)", rich, x -> x.endlessWhen(1, 1499));
        TWINS.same("powers(5, 20)", rich, x -> x.powers(5, 20));
        TWINS.same("find()", rich, EachSecondStruck::find);
        TWINS.same("seen(0)", rich, x -> x.seen(0));
        TWINS.same("seeds(30, -1)", rich, x -> x.seeds(30, -1));
        TWINS.same("count(8)", rich, x -> x.count(8));
    }

    /** REFUSALS are no part of the image, and a ROW told anew leaves them. */
    private static void refusalsStay() {
        EachSecondStruck x = new EachSecondStruck();
        x.left(0);
        x.image();
        x.left(0);
        x.restore();
        due("count(14) behind restore()", x.count(14), 2);
        Due.row(x, "n5;");
        due("count(14) behind n", x.count(14), 2);
        x.clear();
        x.judge();
        due("count(14) behind clear(), judge()", x.count(14), 2);
        for (int many = 3; many <= 40; many++) {
            x.left(0);
            due("count(14)", x.count(14), many);
        }
        due("count(15), there is no refusal -5", x.count(15), 0);
    }
}
