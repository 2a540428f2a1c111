import java.util.function.Consumer;
import java.util.function.Supplier;
import java.util.function.ToLongFunction;

/** Two objects with the same calls behind them: what one is asked must not show in what it tells later. */
final class Twins {
    static final long LONG = 4000000000000000000L;
    /** As many as are looked at, so that one object's calls stay below the document's 512. */
    private static final int MOST_LOOKED_AT = 24;

    private final Due due;

    Twins(Due due) {
        this.due = due;
    }

    /** Twenty children with something in all that there is: letters, told ROW, STEPS, image, refusals. */
    static EachSecondStruck rich() {
        EachSecondStruck x = Due.by("n15;x1,5;s23;t2;t3;");
        x.round();
        x.image();
        Due.row(x, "n20;x2,9;x1,4;s43;t5;");
        x.round();
        Due.feed(x, "n7;x1,2;t4;");
        tellThoseLeft(x);
        x.place(0);
        x.gap(2);
        x.swap(1, 2);
        x.left(0);
        x.near(121);
        return x;
    }

    static void tellThoseLeft(EachSecondStruck x) {
        for (int place = 1; x.left(place) > 0; place++) {
            x.tell(x.left(place));
        }
    }

    /** The call is refused on a new object and on a rich one. */
    void refuse(String call, int number, ToLongFunction<EachSecondStruck> asked) {
        refuseIn("new: ", EachSecondStruck::new, call, number, asked);
        refuseIn("rich: ", Twins::rich, call, number, asked);
    }

    void refuseIn(String where, Supplier<EachSecondStruck> setting, String call, int number,
            ToLongFunction<EachSecondStruck> asked) {
        EachSecondStruck one = setting.get();
        EachSecondStruck other = setting.get();
        long want = call.startsWith("throwsBy") ? LONG + number : -number;
        due.is(where + call, asked.applyAsLong(one), want);
        compare(where + call, one, other, number);
    }

    /** What is done changes nothing, and no refusal is counted. */
    void same(String call, Supplier<EachSecondStruck> setting, Consumer<EachSecondStruck> done) {
        EachSecondStruck one = setting.get();
        EachSecondStruck other = setting.get();
        done.accept(one);
        compare(call, one, other, 0);
    }

    private void compare(String call, EachSecondStruck one, EachSecondStruck other, int refused) {
        for (int number = 1; number <= 6; number++) {
            due.is(call + ", REFUSALS -" + number, one.count(10 + number),
                other.count(10 + number) + (number == refused ? 1 : 0));
        }
        String first = all(one);
        String second = all(other);
        if (!first.equals(second)) {
            System.out.println(first + "\n" + second);
        }
        due.is(call + " changed something", first.equals(second) ? 0 : 1, 0);
    }

    /** All that an object can tell: now, when its told ROW and letters are used up, and by its image. */
    private static String all(EachSecondStruck x) {
        StringBuilder text = new StringBuilder();
        look(x, text);
        text.append(" found ").append(x.find()).append(' ').append(x.seen(0)).append(' ').append(x.seen(1));
        text.append(" judged ").append(x.judge()).append(" image ").append(x.restore());
        look(x, text);
        text.append(" row ").append(x.row());
        look(x, text);
        x.set(0, 4);
        for (int i = 0; i < 9; i++) {
            text.append(' ').append(x.next()).append(' ').append(x.round());
        }
        return text.toString();
    }

    private static void look(EachSecondStruck x, StringBuilder text) {
        text.append('\n');
        for (int what = 0; what <= 8; what++) {
            text.append(x.count(what)).append(' ');
        }
        text.append(x.next()).append(' ').append(x.rounds()).append(" line");
        int many = Math.min(x.count(0), MOST_LOOKED_AT);
        for (int i = 1; i <= many; i++) {
            text.append(' ').append(x.left(i)).append('/').append(x.when(i)).append('/').append(x.goes(i - 1));
        }
        text.append(" by others");
        for (int kind = 0; kind <= 6; kind++) {
            text.append(' ').append(x.byOther(kind));
        }
        text.append(" seeds ").append(x.seeds(2, 7)).append(" endless ").append(x.endless(2, 3));
    }
}
