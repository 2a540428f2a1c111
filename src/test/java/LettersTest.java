/** A ROW told in letters: empty, full, each letter at each place, and the bounds of each STATEMENT. */
public final class LettersTest {
    private static final Due DUE = new Due();
    private static final Twins TWINS = new Twins(DUE);
    private static final String DIGITS = "0123456789";
    private static final String VERBS = "nstx";

    private LettersTest() {
    }

    public static void main(String[] args) {
        emptyAndFull();
        lettersThatGoOn();
        digits();
        theEndIfSomethingLacks();
        numbersOfChildren();
        kindsAndFigures();
        steps();
        changedPlaces();
        roundAbove0();
        firstFault();
        beginsAnew();
        DUE.end();
    }

    private static void due(String call, long got, long want) {
        DUE.is(call, got, want);
    }

    private static EachSecondStruck richWithoutLetters() {
        EachSecondStruck x = Twins.rich();
        x.row();
        return x;
    }

    private static EachSecondStruck atFirst() {
        return Due.by("n9;x1,2;s14;t3;");
    }

    /** A FAULT: the letters are no more, nothing comes of them, and no refusal is counted. */
    private static void fault(String text, int want) {
        due("row of \"" + text + "\"", Due.row(atFirst(), text), want);
        TWINS.same("\"" + text + "\"", LettersTest::atFirst, x -> Due.row(x, text));
    }

    private static void comes(String text, int statements) {
        EachSecondStruck x = atFirst();
        due("row of \"" + text + "\"", Due.row(x, text), statements);
        due("letters behind row", x.count(6), 0);
        due("row() again, of none", x.row(), -1000);
    }

    private static void emptyAndFull() {
        fault("", -1000);
        comes("n120;n120;n120;n120;n120;n120;n120;n120;n120;n7;", 10);
        comes("x1,2;x1,2;x1,2;x1,2;x1,2;x1,2;x1,2;x1,2;x1,2;n7;", 10);
        comes("n9;n9;n9;n9;n9;n9;n9;n9;n9;n9;n9;n9;n9;n9;n9;n9;", 16);
        fault("n9;n9;n9;n9;n9;n9;n9;n9;n9;n9;n9;n9;n9;n9;n9;n9", -1047);
        fault("n9;n9;n9;n9;n9;n9;n9;n9;n9;n9;n9;n9;n9;n9;n9;n12", -1048);
        fault("n9;n9;n9;n9;n9;n9;n9;n9;n9;n9;n9;n9;n9;n9;n9;n9,", -1047);
        fault("n9;n9;n9;n9;n9;n9;n9;n9;n9;n9;n9;n9;n9;n9;n9;n0;", -2045);
        TWINS.same("row() of none, rich", LettersTest::richWithoutLetters, EachSecondStruck::row);
    }

    private static void lettersThatGoOn() {
        String[][] told = {
            {"", VERBS}, {"n", DIGITS}, {"n1", DIGITS + ";"}, {"n12", DIGITS + ";"}, {"n123", ";"},
            {"s", DIGITS}, {"s1", DIGITS}, {"s12", ";"}, {"t", DIGITS}, {"t2", ";"},
            {"x", DIGITS}, {"x1", DIGITS + ","}, {"x12", DIGITS + ","}, {"x123", ","}, {"x1,", DIGITS},
            {"x1,2", DIGITS + ";"}, {"x1,23", DIGITS + ";"}, {"x1,234", ";"},
            {"n5;", VERBS}, {"s12;", VERBS}, {"t2;", VERBS}, {"x1,2;", VERBS}, {"n5;x1,2", DIGITS + ";"}
        };
        for (String[] each : told) {
            for (int letter = 0; letter <= 255; letter++) {
                everyLetter(each[0], each[1], letter);
            }
        }
    }

    private static void everyLetter(String before, String goOn, int letter) {
        EachSecondStruck x = new EachSecondStruck();
        Due.feed(x, before);
        x.feed(letter);
        int answer = x.row();
        String call = "row of \"" + before + "\" and letter " + letter;
        if (goOn.indexOf(letter) < 0) {
            due(call, answer, -1000 - before.length());
        } else if (letter != ';') {
            due(call, answer, -1000 - before.length() - 1);
        } else {
            due(call + " is no fault of a letter", answer > 0 || answer <= -2000 ? 1 : 0, 1);
        }
    }

    private static void digits() {
        comes("n1;", 1);
        comes("n01;", 1);
        comes("n001;", 1);
        fault("n;", -1001);
        fault("n0001;", -1004);
        comes("x3,4;", 1);
        comes("x03,04;", 1);
        comes("x003,004;", 1);
        fault("x,4;", -1001);
        fault("x3,;", -1003);
        fault("x0003,4;", -1004);
        fault("x3,0004;", -1006);
        comes("s02;", 1);
        fault("s2;", -1002);
        fault("s002;", -1003);
        comes("t2;", 1);
        fault("t;", -1001);
        fault("t02;", -1002);
    }

    private static void theEndIfSomethingLacks() {
        String[] whole = {"n123;", "s12;", "t2;", "x123,456;"};
        for (String statement : whole) {
            for (int length = 0; length < statement.length(); length++) {
                String cut = statement.substring(0, length);
                fault(cut, -1000 - length);
                if (length > 0) {
                    fault("n5;" + cut, -1003 - length);
                }
            }
        }
    }

    private static void numbersOfChildren() {
        for (int n : new int[] {1, 2, 119, 120}) {
            EachSecondStruck x = atFirst();
            due("n" + n, Due.row(x, "n" + n + ";"), 1);
            due("count(0)", x.count(0), n);
            due("count(1)", x.count(1), n);
            due("left(n)", x.left(n), n);
            due("left(n + 1)", x.left(n + 1), -9);
            due("place(n + 1)", x.place(n + 1), -1);
        }
        fault("n0;", -2000);
        fault("n000;", -2000);
        fault("n121;", -2000);
        fault("n999;", -2000);
    }

    private static void kindsAndFigures() {
        for (int kind = 0; kind <= 9; kind++) {
            for (int figure = 0; figure <= 9; figure++) {
                String text = "s" + kind + figure + ";";
                if (kind > 6 || figure < 2) {
                    fault(text, -2000);
                    continue;
                }
                EachSecondStruck x = atFirst();
                due(text, Due.row(x, text), 1);
                due(text + " count(3)", x.count(3), kind);
                due(text + " count(4)", x.count(4), figure);
            }
        }
    }

    private static void steps() {
        for (int step = 0; step <= 9; step++) {
            String text = "t" + step + ";";
            if (step < 2) {
                fault(text, -2000);
                continue;
            }
            EachSecondStruck x = Due.by("s42;");
            due(text, Due.row(x, text), 1);
            due(text + " count(5)", x.count(5), 1);
            due(text + " next()", x.next(), step);
        }
        // one STEP is there at first: seven more have room, an eighth has not
        comes("t2;t3;t4;t5;t6;t7;t8;", 7);
        fault("t2;t3;t4;t5;t6;t7;t8;t9;", -2021);
        fault("t2;t3;t4;t5;t6;t7;t8;n5;t9;", -2024);
        EachSecondStruck x = new EachSecondStruck();
        due("eight of none", Due.row(x, "t2;t3;t4;t5;t6;t7;t8;t9;"), 8);
        due("count(5)", x.count(5), 8);
        due("a ninth", Due.row(x, "t2;"), -2000);
        due("count(5) behind it", x.count(5), 8);
        due("nine of none", Due.row(new EachSecondStruck(), "t2;t3;t4;t5;t6;t7;t8;t9;t2;"), -2024);
    }

    private static void changedPlaces() {
        EachSecondStruck x = atFirst();
        due("x1,9", Due.row(x, "x1,9;"), 1);
        due("left(2), where 1 stood", x.left(2), 9);
        due("left(9)", x.left(9), 1);
        fault("x0,1;", -2000);
        fault("x1,0;", -2000);
        fault("x10,1;", -2000);
        fault("x1,10;", -2000);
        fault("x999,998;", -2000);
        fault("x9,9;", -2000);
        fault("x9,009;", -2000);
        // the N of the STATEMENTS ahead is the one that bounds
        comes("n120;x119,120;", 2);
        fault("n120;x120,121;", -2005);
        fault("n8;x8,9;", -2003);
        fault("n1;x1,1;", -2003);
        comes("x8,9;n8;", 2);
    }

    private static EachSecondStruck oneRound() {
        EachSecondStruck x = atFirst();
        x.round();
        return x;
    }

    private static void roundAbove0() {
        EachSecondStruck x = oneRound();
        due("x at ROUND 1", Due.row(x, "x3,4;"), -2000);
        due("x ahead of n", Due.row(x, "t2;x3,4;n9;"), -2003);
        TWINS.same("x at ROUND 1", LettersTest::oneRound, y -> Due.row(y, "t2;x3,4;n9;"));
        due("s, t at ROUND 1", Due.row(x, "s32;t4;"), 2);
        due("s, t leave ROUND 1", x.count(2), 1);
        due("x behind n", Due.row(x, "n9;x3,4;"), 2);
        due("left(3)", x.left(3), 4);
    }

    private static void firstFault() {
        // a letter's fault goes ahead of a statement's, wherever both are
        fault("n0;n", -1004);
        fault("n0;s72;;", -1007);
        // of several the first
        fault("nn;;", -1001);
        fault("n5;t1;s72;", -2003);
        // nothing of what stands ahead of the fault comes
        fault("n5;x1,2;s39;t4;n0;", -2015);
        fault("n5;x1,2;s39;t4;q", -1015);
    }

    private static void beginsAnew() {
        EachSecondStruck x = Due.by("n9;x1,2;s53;t3;t4;");
        x.image();
        x.round();
        x.round();
        due("n9 again", Due.row(x, "n9;"), 1);
        due("ROUND", x.count(2), 0);
        for (int number = 1; number <= 9; number++) {
            due("in their order", x.left(number), number);
        }
        due("who was gone is there", x.when(2), 2);
        due("goes(0)", x.goes(0), 1);
        due("KIND stays", x.count(3), 5);
        due("FIGURE stays", x.count(4), 3);
        due("STEPS stay", x.count(5), 2);
        due("the image stays", x.restore(), 9);
        due("as it was", x.left(1), 2);
    }
}
