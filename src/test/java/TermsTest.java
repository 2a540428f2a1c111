/** Edges of the terms: COUNT and who is left, THE END, what is in mind, told lists, the image. */
public final class TermsTest {
    private static final Due DUE = new Due();

    private TermsTest() {
    }

    public static void main(String[] args) {
        counts();
        theEnd();
        inMind();
        toldRow();
        images();
        nobodyLeft();
        oneAlone();
        DUE.end();
    }

    private static void due(String call, long got, long want) {
        DUE.is(call, got, want);
    }

    private static EachSecondStruck behindRounds(String row, int rounds) {
        EachSecondStruck x = Due.by(row);
        for (int i = 0; i < rounds; i++) {
            x.round();
        }
        return x;
    }

    private static void line(String call, EachSecondStruck x, int... numbers) {
        due(call + " count(1)", x.count(1), numbers.length);
        for (int i = 0; i < numbers.length; i++) {
            due(call + " left(" + (i + 1) + ")", x.left(i + 1), numbers[i]);
            due(call + " place(" + numbers[i] + ")", x.place(numbers[i]), i + 1);
        }
        due(call + " left behind the last", x.left(numbers.length + 1), -9);
    }

    private static void stay(String call, EachSecondStruck x, int... numbers) {
        due(call + " count(8)", x.count(8), numbers.length);
        for (int i = 0; i < numbers.length; i++) {
            due(call + " stays(" + i + ")", x.stays(i), numbers[i]);
        }
        due(call + " stays behind the last", x.stays(numbers.length), -9);
    }

    private static void counts() {
        asManyLeftAsCount();
        luckWithJustSoManyLeft();
        luckIsTwoAtLeast();
        stepsRoundAndRound();
        toldWithoutSteps();
        fromTheBack();
        firsts();
    }

    private static void asManyLeftAsCount() {
        EachSecondStruck x = Due.by("n1;");
        due("one less than COUNT", x.round(), 0);
        line("one less than COUNT", x, 1);
        x = Due.by("n2;");
        due("as many as COUNT", x.round(), 1);
        line("as many as COUNT", x, 1);
        x = Due.by("n3;");
        due("one more than COUNT", x.round(), 1);
        line("one more than COUNT", x, 1, 3);
        due("two, COUNT 3", x.round(), 0);
        x = behindRounds("n5;", 1);
        due("three, COUNT 3", x.round(), 1);
        line("three, COUNT 3", x, 1, 3);
        x = Due.by("n8;s29;");
        due("eight, COUNT 9", x.round(), 0);
        x = Due.by("n9;s29;");
        due("nine, COUNT 9", x.round(), 1);
        x = Due.by("n18;s29;");
        due("eighteen, COUNT 9", x.round(), 2);
        due("the last is gone", x.place(18), -9);
    }

    private static void luckWithJustSoManyLeft() {
        EachSecondStruck x = behindRounds("n8;s12;", 2);
        line("LUCK", x, 1, 3, 7);
        due("three left at r 3: the NUMBER on PLACE 3", x.next(), 7);
        x = behindRounds("n6;s12;", 2);
        line("LUCK", x, 1, 3);
        due("two left at r 3: one more than are left", x.next(), 3);
        due("so nobody goes", x.round(), 0);
        x = Due.by("n4;s12;x2,4;");
        due("at r 1 COUNT is 2, whoever is on PLACE 1", x.next(), 2);
        x = Due.by("n4;s12;x1,4;");
        due("at r 1 COUNT is 2, whoever is on PLACE 1", x.next(), 2);
    }

    private static void luckIsTwoAtLeast() {
        EachSecondStruck x = behindRounds("n6;s12;x1,3;", 1);
        line("LUCK", x, 3, 1, 5);
        due("NUMBER 1 on PLACE 2", x.next(), 2);
        x = behindRounds("n6;s12;x2,3;", 1);
        line("LUCK", x, 1, 2, 5);
        due("NUMBER 2 on PLACE 2", x.next(), 2);
        x = behindRounds("n1;s12;", 1);
        due("one left at r 2", x.next(), 2);
        x = behindRounds("n1;s52;", 1);
        x.set(0, 1);
        due("nobody left at r 2", x.next(), 2);
        due("nobody goes", x.round(), 0);
    }

    private static void stepsRoundAndRound() {
        EachSecondStruck x = Due.by("n120;s42;t5;t6;t7;t8;t9;t2;t3;t4;");
        int[] steps = {5, 6, 7, 8, 9, 2, 3, 4};
        for (int r = 1; r <= 24; r++) {
            due("eight STEPS, r " + r, x.next(), steps[(r - 1) % 8]);
            x.round();
        }
        x = Due.by("n9;s42;t7;");
        due("one STEP, r 1", x.next(), 7);
        x.round();
        due("one STEP, r 2", x.next(), 7);
        x.step(3);
        due("two STEPS, r 2", x.next(), 3);
        x.step(4);
        x.round();
        due("three STEPS, r 3", x.next(), 4);
        x.round();
        due("three STEPS, r 4", x.next(), 7);
    }

    private static void toldWithoutSteps() {
        EachSecondStruck x = Due.by("n9;s45;");
        due("as a SAME", x.next(), 5);
        x.set(1, 9);
        due("as a SAME", x.next(), 9);
        x.step(2);
        due("with a STEP", x.next(), 2);
    }

    private static void fromTheBack() {
        EachSecondStruck x = Due.by("n6;s32;");
        x.round();
        line("ENDS, r 1 from the front", x, 1, 3, 5);
        x.round();
        line("ENDS, r 2 from the back", x, 3, 5);
        x = behindRounds("n4;s62;", 1);
        line("HALVES, r 1 from the front", x, 1, 3);
        x.round();
        line("HALVES, r 2 from the back", x, 3);
        x = Due.by("n9;s62;");
        int[] order = {2, 4, 6, 8, 7, 3, 5, 1};
        for (int i = 0; i < order.length; i++) {
            due("HALVES goes(" + i + ")", x.goes(i), order[i]);
        }
        stay("HALVES", x, 9);
    }

    private static void firsts() {
        EachSecondStruck x = Due.by("n2;s52;");
        due("two, COUNT 2: PLACE 1", x.round(), 1);
        line("FIRSTS", x, 2);
        x = Due.by("n3;s52;");
        due("three, COUNT 2: PLACES 1, COUNT and 1", x.round(), 2);
        line("FIRSTS", x, 2);
        due("one, COUNT 3: PLACE 1", x.round(), 1);
        line("FIRSTS", x);
        due("nobody left", x.round(), 0);
        x = behindRounds("n8;s52;", 1);
        line("FIRSTS", x, 2, 4, 6, 8);
        due("four, COUNT 3: PLACES 1 and 4", x.round(), 2);
        line("FIRSTS", x, 4, 6);
    }

    private static void theEnd() {
        EachSecondStruck x = Due.by("n3;s42;t9;t9;t2;");
        int[] rounds = {6, 5, 4, 3, 2, 1, 0, 0, 0, 0};
        for (int r = 0; r < rounds.length; r++) {
            due("rounds() at ROUND " + r, x.rounds(), rounds[r]);
            due("when(2)", x.when(2), 3);
            due("when(3)", x.when(3), 6);
            due("when(1)", x.when(1), -9);
            x.round();
        }
        x = Due.by("n2;s42;t9;t9;t9;t9;t9;t9;t9;t2;");
        due("seven idle ROUNDS are not THE END of eight STEPS", x.rounds(), 8);
        stay("eight STEPS", x, 1);
        x.set(0, 0);
        due("of another KIND one idle ROUND is", x.rounds(), 1);
        due("byOther(4)", x.byOther(4), 1);
        x = Due.by("n8;s42;t9;");
        due("one STEP", x.rounds(), 0);
        x.set(0, 2);
        x.set(1, 9);
        due("SAME", x.rounds(), 0);
        x = Due.by("n8;s49;");
        due("without STEPS one idle ROUND is THE END", x.rounds(), 0);
        // ROUND 1 lets nobody go, ROUND 2 would by its STEP, but from now NEXT ends at once
        x = Due.by("n2;t9;t2;");
        x.set(0, 4);
        due("two STEPS", x.rounds(), 2);
        x.round();
        due("two STEPS, from now", x.rounds(), 1);
        x.round();
        due("two STEPS, from now", x.rounds(), 0);
        // LUCK alone can let one go behind a ROUND in which nobody goes: THE END is the first all the same
        x = Due.by("n10;s12;x3,9;");
        due("LUCK rounds()", x.rounds(), 1);
        due("LUCK when(3), who would go in ROUND 3", x.when(3), -9);
        stay("LUCK", x, 1, 9, 5, 7, 3);
        x.round();
        due("LUCK rounds(), THE END is now", x.rounds(), 0);
        due("LUCK round(), nobody goes", x.round(), 0);
        due("LUCK rounds(), from now on there is another END", x.rounds(), 1);
        stay("LUCK", x, 1, 9, 5, 7);
        x = Due.by("n120;s52;");
        due("FIRSTS ends when nobody is left", x.behind(2, x.rounds()), -9);
        due("count(8)", x.count(8), 0);
        int last = x.goes(119);
        due("the last goes in the last ROUND", x.when(last), x.rounds());
        due("and is there ahead of it", x.behind(last, x.rounds() - 1), 1);
    }

    private static void inMind() {
        whenAndBehind();
        whoStaysAndGoes();
        gaps();
        neighbours();
    }

    private static void whenAndBehind() {
        EachSecondStruck x = Due.by("n10;");
        for (int rounds = 0; rounds <= 4; rounds++) {
            due("when(5), gone or not", x.when(5), 2);
            due("when(9), gone or not", x.when(9), 3);
            due("behind(5, 0)", x.behind(5, 0), rounds == 0 ? 5 : rounds == 1 ? 3 : -9);
            x.round();
        }
        x = Due.by("n10;");
        due("behind, one ahead of its going", x.behind(9, 2), 4);
        due("behind, just its going", x.behind(9, 3), -9);
        due("behind, far beyond", x.behind(7, 60), 3);
    }

    private static void whoStaysAndGoes() {
        EachSecondStruck x = Due.by("n2;");
        stay("two", x, 1);
        due("goes(0)", x.goes(0), 2);
        due("goes(1)", x.goes(1), -9);
        x.round();
        due("goes(0) from now on: nobody", x.goes(0), -9);
        x = Due.by("n120;s29;");
        stay("SAME 9", x, 1, 2, 3, 4, 5, 6, 7, 8);
        due("goes(112), one more than go", x.goes(112), -9);
        x = Due.by("n10;s29;");
        due("goes(0)", x.goes(0), 9);
        due("goes(1), the last", x.goes(1), 10);
        due("goes(2)", x.goes(2), -9);
    }

    private static void gaps() {
        EachSecondStruck x = Due.by("n3;");
        due("gap(0) of two", x.gap(0), 2);
        due("gap(1) of two", x.gap(1), 1);
        x = Due.by("n3;x1,3;");
        due("gap(0) without sign", x.gap(0), 2);
        due("gap(1), the one ahead", x.gap(1), 3);
        x = Due.by("n4;s29;x2,3;");
        // 1 3 2 4: differences 2, 1, 2
        due("gap(0), several", x.gap(0), 2);
        due("gap(1), the first of several", x.gap(1), 1);
        x = Due.by("n120;s29;x1,120;x2,119;");
        // 120 119 3 4 ..
        due("gap(0)", x.gap(0), 116);
        due("gap(1)", x.gap(1), 119);
        x = Due.by("n120;s23;x2,120;");
        due("gap(0), the widest", x.gap(0), 119);
        due("gap(1)", x.gap(1), 1);
        x = Due.by("n2;");
        due("gap(0), one stays", x.gap(0), -9);
        due("gap(1), one stays", x.gap(1), -9);
    }

    private static void neighbours() {
        EachSecondStruck x = behindRounds("n6;s32;", 1);
        // 1 3 5 are left; 3 and 5 stay
        due("friends(), the last two", x.friends(), 2);
        due("beside(3)", x.beside(3), 5);
        due("beside(5), nobody", x.beside(5), -9);
        due("beside(1), it goes", x.beside(1), -9);
        due("beside(2), it is gone", x.beside(2), -9);
        x = Due.by("n6;s32;");
        due("friends(), none yet next to each other", x.friends(), -9);
        x = Due.by("n2;s29;");
        due("friends() of two", x.friends(), 1);
        x = Due.by("n2;");
        due("friends(), one of two stays", x.friends(), -9);
        due("beside(1), one of two stays", x.beside(1), -9);
        x = Due.by("n120;s23;");
        due("friends() of 120", x.friends(), 1);
        x = Due.by("n120;s33;x1,2;");
        due("friends() of 120, none", x.friends(), -9);
        // the last in the row stays, and nobody stands behind it
        x = behindRounds("n4;s62;", 1);
        due("friends() of two, the last stays", x.friends(), -9);
        x.round();
        due("friends() of one who stays", x.friends(), -9);
    }

    private static void toldRow() {
        judged();
        found();
        foundOf24();
        seen();
    }

    private static void judge(EachSecondStruck x, int want, int... numbers) {
        Due.tell(x, numbers);
        due("judge() of " + numbers.length, x.judge(), want);
        due("the told ROW has none then", x.count(7), 0);
    }

    private static void judged() {
        EachSecondStruck x = behindRounds("n5;", 1);
        judge(x, -9, 1, 3, 5);
        judge(x, 0);
        judge(x, 0, 3, 3, 5);
        judge(x, 2, 1, 3, 4);
        judge(x, 1, 1);
        judge(x, 2, 1, 3);
        judge(x, 3, 1, 3, 5, 7);
        judge(x, 3, 1, 3, 5, 7, 9);
        judge(x, 1, 1, 5, 3, 7);
        for (int n = 23; n <= 25; n++) {
            x = Due.by("n" + n + ";");
            for (int number = 1; number <= 24; number++) {
                x.tell(number);
            }
            due("judge() of 24, left " + n, x.judge(), n == 24 ? -9 : Math.min(n, 24));
        }
    }

    private static void find(String row, int want, int... numbers) {
        EachSecondStruck x = Due.by(row);
        Due.tell(x, numbers);
        due("find() by " + row, x.find(), want);
        due("the told ROW stays", x.count(7), numbers.length);
        x.round();
        due("find() behind a ROUND, from the beginning", x.find(), want);
    }

    private static void found() {
        find("n1;", 0, 1);
        find("n1;", 50);
        find("n1;", -9, 2);
        find("n2;", 0, 1);
        find("n2;", 23, 1, 2);
        find("n2;x1,2;", 23, 1, 2);
        find("n2;x1,2;", -9, 2, 1);
        // by KINDS: NEXT ahead of LUCK, LUCK ahead of SAME
        find("n4;s12;", 0, 1, 3);
        find("n120;s22;", 22, 1);
        // by FIGURES: seven are all left by 8 and by 9, eight by 9 alone, nine by none
        find("n7;", 28, 1, 2, 3, 4, 5, 6, 7);
        find("n8;", 29, 1, 2, 3, 4, 5, 6, 7, 8);
        find("n9;", -9, 1, 2, 3, 4, 5, 6, 7, 8, 9);
        find("n12;", 30, 3, 5, 9);
        find("n120;", 50);
        find("n12;", 60, 11);
        // TOLD is left out
        find("n5;s42;t5;t3;", -9, 1, 4);
        find("n10;", -9, 1, 3);
        find("n10;", -9, 1, 3, 7, 120);
    }

    private static void foundOf24() {
        int[] luck = {1, 3, 7, 9, 13, 15, 21, 25, 31, 33, 37, 43, 49, 51, 63, 67, 69, 73, 75, 79, 87, 93, 99, 105};
        find("n105;", 10, luck);
        find("n110;", 10, luck);
        // one more stays here than can be told
        find("n111;", -9, luck);
        find("n104;", -9, luck);
    }

    private static void see(String row, int many, int first, int... numbers) {
        EachSecondStruck x = Due.by(row);
        Due.tell(x, numbers);
        due("seen(0) by " + row, x.seen(0), many);
        due("seen(1) by " + row, x.seen(1), first);
        due("the told ROW stays", x.count(7), numbers.length);
        x.round();
        due("seen(0) behind a ROUND, at the beginning", x.seen(0), many);
    }

    private static void seen() {
        see("n1;", 0, -9, 1);
        see("n1;s52;", 0, -9);
        see("n2;", 1, 1002, 2);
        see("n2;", 0, -9, 1);
        see("n2;s29;", 1, 1002, 2, 1);
        see("n2;s29;", 0, -9, 1, 2);
        // eight places stay: pairs of both among them, of one, of none
        see("n40;s29;", 1, 1002, 2, 1, 3, 4, 5, 6, 7, 8);
        see("n40;s29;", 1, 7008, 1, 2, 3, 4, 5, 6, 8, 7);
        see("n40;s29;", 1, 8040, 1, 2, 3, 4, 5, 6, 7, 40);
        see("n40;s29;", 1, 1009, 9, 2, 3, 4, 5, 6, 7, 8);
        see("n40;s29;", 496, 9010, 1, 2, 3, 4, 5, 6, 7, 8);
        see("n40;s29;", 0, -9, 1, 2, 3, 4, 5, 6, 7, 41);
        see("n40;s29;", 0, -9, 1, 2, 3, 4, 5, 6, 7);
        see("n40;s29;", 0, -9, 1, 2, 3, 4, 5, 6, 7, 8, 9);
        see("n40;s29;", 0, -9, 2, 1, 4, 3, 5, 6, 7, 8);
        see("n40;s52;", 780, 1002);
        see("n40;s42;t9;t2;", 1, 1040, 40);
        // by LUCK a change of places changes who goes
        see("n3;s12;", 1, 1003, 3);
        see("n3;s12;", 1, 1002, 2, 3);
        see("n3;s12;", 1, 2003, 1);
        see("n10;s12;", 1, 3009, 1, 9, 5, 7, 3);
        // both even, or 5, who goes too, with an even one
        see("n10;s12;", 15, 2004, 1, 3, 7, 9);
        // places changed now do not matter
        see("n2;x1,2;", 1, 1002, 2);
    }

    private static void images() {
        EachSecondStruck x = behindRounds("n20;s43;t4;t5;x1,2;", 1);
        due("image()", x.image(), 15);
        Due.feed(x, "n3;");
        Due.tell(x, 8, 9);
        x.left(0);
        due("restore()", x.restore(), 15);
        due("letters stay", x.count(6), 3);
        due("the told ROW stays", x.count(7), 2);
        due("REFUSALS stay", x.count(14), 1);
        due("row()", x.row(), 1);
        x.set(0, 1);
        x.set(1, 9);
        x.step(7);
        due("restore() from three children", x.restore(), 15);
        int[] counts = {20, 15, 1, 4, 3, 2, 0, 2};
        for (int what = 0; what < counts.length; what++) {
            due("restored count(" + what + ")", x.count(what), counts[what]);
        }
        due("restored next()", x.next(), 5);
        due("restored left(1)", x.left(1), 2);
        due("restored when(4)", x.when(4), 1);
        // a STEP told behind the image is no more: another comes in its stead
        due("step(6)", x.step(6), 3);
        x.round();
        due("next()", x.next(), 6);
        due("the last image counts", x.image(), 12);
        x.round();
        due("restore()", x.restore(), 12);
        due("restore() again", x.restore(), 12);
        due("count(5)", x.count(5), 3);
    }

    private static void nobodyLeft() {
        for (int kind = 0; kind <= 6; kind++) {
            EachSecondStruck x = behindRounds("n1;s52;", 1);
            x.set(0, kind);
            String by = "nobody left, KIND " + kind + " ";
            due(by + "count(0)", x.count(0), 1);
            due(by + "count(1)", x.count(1), 0);
            due(by + "left(1)", x.left(1), -9);
            due(by + "place(1)", x.place(1), -9);
            due(by + "when(1)", x.when(1), 1);
            due(by + "behind(1, 0)", x.behind(1, 0), -9);
            due(by + "behind(1, 60)", x.behind(1, 60), -9);
            due(by + "rounds()", x.rounds(), 0);
            due(by + "stays(0)", x.stays(0), -9);
            due(by + "goes(0)", x.goes(0), -9);
            due(by + "beside(1)", x.beside(1), -9);
            due(by + "gap(0)", x.gap(0), -9);
            due(by + "gap(1)", x.gap(1), -9);
            due(by + "near(120)", x.near(120), 0);
            due(by + "friends()", x.friends(), -9);
            due(by + "byOther", x.byOther(6 - kind), 0);
            due(by + "count(8)", x.count(8), 0);
            due(by + "judge() of none", x.judge(), -9);
            x.tell(1);
            due(by + "judge() of one", x.judge(), 0);
            due(by + "image()", x.image(), 0);
            due(by + "round()", x.round(), 0);
            due(by + "restore()", x.restore(), 0);
            due(by + "count(2)", x.count(2), 1);
        }
    }

    private static void oneAlone() {
        for (int kind = 0; kind <= 6; kind++) {
            EachSecondStruck x = Due.by("n1;s" + kind + "2;");
            int goes = kind == 5 ? 1 : 0;
            String by = "one alone, KIND " + kind + " ";
            due(by + "next()", x.next(), 2);
            due(by + "rounds()", x.rounds(), goes);
            due(by + "count(8)", x.count(8), 1 - goes);
            due(by + "stays(0)", x.stays(0), goes == 1 ? -9 : 1);
            due(by + "goes(0)", x.goes(0), goes == 1 ? 1 : -9);
            due(by + "when(1)", x.when(1), goes == 1 ? 1 : -9);
            due(by + "beside(1)", x.beside(1), -9);
            due(by + "gap(0)", x.gap(0), -9);
            due(by + "friends()", x.friends(), -9);
            due(by + "near(1)", x.near(1), 1 - goes);
            due(by + "round()", x.round(), goes);
            due(by + "count(1)", x.count(1), 1 - goes);
        }
    }
}
