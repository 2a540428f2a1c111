/** What the tests share: they compare answers, count the wrong ones, and end with 1 if there was one. */
final class Due {
    private int wrong;
    private int asked;

    void is(String call, long got, long want) {
        asked++;
        if (got != want) {
            wrong++;
            System.out.println(call + " answered " + got + ", due is " + want);
        }
    }

    void end() {
        System.out.println(wrong + " of " + asked + " answers are not as due");
        if (wrong != 0) {
            System.exit(1);
        }
    }

    static void feed(EachSecondStruck x, String text) {
        for (int i = 0; i < text.length(); i++) {
            x.feed(text.charAt(i));
        }
    }

    /** The letters of a text come one by one and are a ROW. */
    static int row(EachSecondStruck x, String text) {
        feed(x, text);
        return x.row();
    }

    /** A new object to which a ROW was told. */
    static EachSecondStruck by(String text) {
        EachSecondStruck x = new EachSecondStruck();
        row(x, text);
        return x;
    }

    static void tell(EachSecondStruck x, int... numbers) {
        for (int number : numbers) {
            x.tell(number);
        }
    }

    /** All that count tells, in a text, for comparing whole states. */
    static String state(EachSecondStruck x) {
        StringBuilder text = new StringBuilder();
        for (int what = 0; what <= 8; what++) {
            text.append(x.count(what)).append(' ');
        }
        text.append('|');
        for (int place = 1; place <= x.count(1); place++) {
            text.append(x.left(place)).append(' ');
        }
        text.append('|');
        for (int number = 1; number <= x.count(0); number++) {
            text.append(x.when(number)).append(' ');
        }
        return text.toString();
    }
}
