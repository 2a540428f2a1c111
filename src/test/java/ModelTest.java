import java.util.List;
import java.util.Random;

/** Long runs of calls, drawn by fixed seeds, on the program and on the plain model side by side. */
public final class ModelTest {
    private static final int RUNS = 1500;
    private static final int CALLS = 400;
    private static final Due DUE = new Due();

    private final EachSecondStruck program = new EachSecondStruck();
    private final PlainModel model = new PlainModel();
    private final Random draws;
    private final int run;

    private ModelTest(int run) {
        this.run = run;
        this.draws = new Random(run);
    }

    public static void main(String[] args) {
        for (int run = 0; run < RUNS; run++) {
            new ModelTest(run).goOn();
        }
        DUE.end();
    }

    private void goOn() {
        begin();
        for (int i = 0; i < CALLS; i++) {
            call(draws.nextInt(31));
        }
        for (int what = -1; what < 18; what++) {
            due("count(" + what + ")", program.count(what), model.count(what));
        }
    }

    private void due(String call, int got, int want) {
        DUE.is("run " + run + ": " + call, got, want);
    }

    private int below(int n) {
        return draws.nextInt(n);
    }

    /** A number of a child mostly, sometimes one that is none. */
    private int number() {
        return below(model.size + 3) - 1;
    }

    private void begin() {
        int most = run % 3 == 0 ? 12 : run % 3 == 1 ? 40 : 120;
        letters("n" + (1 + below(most)) + ";s" + below(7) + (2 + below(8)) + ";");
        for (int i = below(6); i > 0; i--) {
            letters("x" + number() + "," + number() + ";");
        }
    }

    private void letters(String text) {
        for (char letter : text.toCharArray()) {
            due("feed(" + (int) letter + ")", program.feed(letter), model.feed(letter));
        }
        due("row() of " + text, program.row(), model.row());
    }

    private String statement() {
        switch (below(9)) {
            case 0:
                return "n" + below(130) + ";";
            case 1:
                return "n" + (1 + below(40)) + ";";
            case 2:
            case 3:
                return "s" + below(8) + (1 + below(9)) + ";";
            case 4:
            case 5:
                return "t" + (1 + below(9)) + ";";
            default:
                return "x" + Math.max(0, number()) + "," + Math.max(0, number()) + ";";
        }
    }

    private String text() {
        StringBuilder text = new StringBuilder();
        for (int i = below(6); i >= 0; i--) {
            text.append(statement());
        }
        if (below(4) == 0) {
            text.setCharAt(below(text.length()), "nstx,;0123456789q".charAt(below(17)));
        }
        if (below(6) == 0) {
            text.setLength(below(text.length()));
        }
        return text.toString();
    }

    private void call(int which) {
        if (which < 10) {
            change(which);
        } else if (which < 21) {
            ask(which);
        } else {
            askTold(which);
        }
    }

    private void change(int which) {
        int a = below(3);
        int v = below(12) - 1;
        switch (which) {
            case 0:
                if (below(3) == 0) {
                    letters(text());
                }
                break;
            case 1:
            case 2:
                due("set(" + a + ", " + v + ")", program.set(a, v), model.set(a, v));
                break;
            case 3:
                if (below(6) == 0) {
                    due("step(" + v + ")", program.step(v), model.step(v));
                }
                break;
            case 4:
            case 5:
                int one = number();
                int other = number();
                due("swap(" + one + ", " + other + ")", program.swap(one, other), model.swap(one, other));
                break;
            case 6:
                if (below(2) == 0) {
                    due("round()", program.round(), model.round());
                }
                break;
            case 7:
                if (below(4) == 0) {
                    due("image()", program.image(), model.image());
                }
                break;
            case 8:
                due("restore()", program.restore(), model.restore());
                break;
            default:
                int letter = below(300) - 20;
                due("feed(" + letter + ")", program.feed(letter), model.feed(letter));
                break;
        }
    }

    private void ask(int which) {
        int number = number();
        int i = below(Math.max(1, model.size)) - 1;
        switch (which) {
            case 10:
                due("next()", program.next(), model.next());
                due("friends()", program.friends(), model.friends());
                break;
            case 11:
                due("left(" + number + ")", program.left(number), model.left(number));
                break;
            case 12:
                due("place(" + number + ")", program.place(number), model.place(number));
                break;
            case 13:
                due("when(" + number + ")", program.when(number), model.when(number));
                break;
            case 14:
                int n = below(4) == 0 ? below(64) - 1 : below(8);
                due("behind(" + number + ", " + n + ")", program.behind(number, n), model.behind(number, n));
                break;
            case 15:
                due("rounds()", program.rounds(), model.rounds());
                break;
            case 16:
                int s = below(10) - 1;
                due("stays(" + s + ")", program.stays(s), model.stays(s));
                break;
            case 17:
                due("goes(" + i + ")", program.goes(i), model.goes(i));
                break;
            case 18:
                due("beside(" + number + ")", program.beside(number), model.beside(number));
                break;
            case 19:
                int what = below(4) - 1;
                due("gap(" + what + ")", program.gap(what), model.gap(what));
                break;
            default:
                int m = below(124) - 1;
                due("near(" + m + ")", program.near(m), model.near(m));
                break;
        }
    }

    private void askTold(int which) {
        int what = below(20) == 0 ? 2 : below(2);
        switch (which) {
            case 21:
                int kind = below(9) - 1;
                due("byOther(" + kind + ")", program.byOther(kind), model.byOther(kind));
                break;
            case 22:
                int number = below(124) - 1;
                due("tell(" + number + ")", program.tell(number), model.tell(number));
                break;
            case 23:
                tell(model.there);
                due("judge()", program.judge(), model.judge());
                break;
            case 24:
                tell(model.fate().staying);
                break;
            case 25:
                PlainModel other = model.copy();
                other.anew(model.size);
                other.kind = below(7);
                tell(other.fate().staying);
                due("find()", program.find(), model.find());
                break;
            case 26:
                seen(what);
                break;
            case 27:
                due("clear()", program.clear(), model.clear());
                break;
            case 28:
            case 29:
                int n = below(33);
                int z = draws.nextInt();
                due("seeds(" + n + ", " + z + ")", program.seeds(n, z), model.seeds(n, z));
                break;
            default:
                int c = below(20) - 1;
                due("count(" + c + ")", program.count(c), model.count(c));
                break;
        }
    }

    /** Mostly a list that a swap at the beginning brings about, so that pairs are found. */
    private void seen(int what) {
        if (model.size > 15 && model.size <= 40 && below(8) != 0) {
            return;
        }
        PlainModel other = model.copy();
        other.anew(model.size);
        if (model.size > 1) {
            int one = 1 + below(model.size);
            int second = 1 + below(model.size);
            if (one != second) {
                other.exchange(one, second);
            }
        }
        tell(other.fate().staying);
        due("seen(" + what + ")", program.seen(what), model.seen(what));
    }

    private void tell(List<Integer> numbers) {
        due("clear()", program.clear(), model.clear());
        int many = numbers.size() + (below(4) == 0 ? -1 : 0);
        for (int i = 0; i < many; i++) {
            int number = below(60) == 0 ? 1 + below(120) : numbers.get(i);
            due("tell(" + number + ")", program.tell(number), model.tell(number));
        }
    }
}
