import java.util.ArrayList;
import java.util.HashMap;
import java.util.List;
import java.util.Map;
import java.util.regex.Matcher;
import java.util.regex.Pattern;

/** The document's rules once more, written with lists and without care for room, to compare with. */
final class PlainModel {
    private static final Pattern ROW =
        Pattern.compile("(n\\d{1,3};|s\\d\\d;|t\\d;|x\\d{1,3},\\d{1,3};)+");
    private static final Pattern STATEMENT = Pattern.compile("([nstx])([\\d,]+);");

    int size = 20;
    int round;
    int kind;
    int figure = 2;
    List<Integer> steps = new ArrayList<>();
    List<Integer> there = inOrder(20);
    Map<Integer, Integer> went = new HashMap<>();
    PlainModel image;
    String letters = "";
    List<Integer> told = new ArrayList<>();
    int[] refusals = new int[7];

    static List<Integer> inOrder(int n) {
        List<Integer> all = new ArrayList<>();
        for (int i = 1; i <= n; i++) {
            all.add(i);
        }
        return all;
    }

    PlainModel copy() {
        PlainModel c = new PlainModel();
        c.take(this);
        return c;
    }

    void take(PlainModel o) {
        size = o.size;
        round = o.round;
        kind = o.kind;
        figure = o.figure;
        steps = new ArrayList<>(o.steps);
        there = new ArrayList<>(o.there);
        went = new HashMap<>(o.went);
    }

    void anew(int n) {
        size = n;
        round = 0;
        there = inOrder(n);
        went = new HashMap<>();
    }

    int refuse(int number) {
        refusals[-number]++;
        return number;
    }

    int countOf(int r) {
        switch (kind) {
            case 1:
                int c = r == 1 ? 2 : r <= there.size() ? there.get(r - 1) : there.size() + 1;
                return Math.max(2, c);
            case 2:
                return figure;
            case 4:
                return steps.isEmpty() ? figure : steps.get((r - 1) % steps.size());
            case 6:
                return 2;
            default:
                return r + 1;
        }
    }

    /** Who goes in the next round, in the order of going. */
    List<Integer> pass() {
        int r = round + 1;
        int c = countOf(r);
        boolean back = (kind == 3 || kind == 6) && r % 2 == 0;
        List<Integer> out = new ArrayList<>();
        for (int place = 1; place <= there.size(); place++) {
            int number = there.get(back ? there.size() - place : place - 1);
            boolean goes = kind == 5 ? place % c == 1 : place % c == 0;
            if (goes) {
                out.add(number);
                went.put(number, r);
            }
        }
        there.removeAll(out);
        round = r;
        return out;
    }

    /** What there is in the end: who goes one behind the other, who stays, how many rounds. */
    static final class Fate {
        List<Integer> going = new ArrayList<>();
        List<Integer> staying;
        Map<Integer, Integer> went;
        int rounds;
    }

    Fate fate() {
        PlainModel m = copy();
        Fate f = new Fate();
        int wanted = kind == 4 ? Math.max(1, steps.size()) : 1;
        List<Integer> many = new ArrayList<>();
        while (true) {
            List<Integer> out = m.pass();
            f.going.addAll(out);
            many.add(out.size());
            int idle = 0;
            while (idle < many.size() && many.get(many.size() - 1 - idle) == 0) {
                idle++;
            }
            if (idle == wanted) {
                f.rounds = many.size() - wanted;
                f.staying = m.there;
                f.went = m.went;
                return f;
            }
        }
    }

    boolean isNumber(int n) {
        return n >= 1 && n <= size;
    }

    int feed(int letter) {
        if (letter < 0) {
            return refuse(-4);
        }
        if (letter > 255 || letters.length() == 48) {
            return refuse(-6);
        }
        letters += (char) letter;
        return letters.length();
    }

    int row() {
        String text = letters;
        letters = "";
        for (int length = 1; length <= text.length(); length++) {
            Matcher m = ROW.matcher(text.substring(0, length));
            if (!m.matches() && !m.hitEnd()) {
                return -1000 - (length - 1);
            }
        }
        if (!ROW.matcher(text).matches()) {
            return -1000 - text.length();
        }
        PlainModel trial = copy();
        Matcher m = STATEMENT.matcher(text);
        int statements = 0;
        while (m.find()) {
            if (!trial.statement(m.group(1), m.group(2))) {
                return -2000 - m.start();
            }
            statements++;
        }
        take(trial);
        return statements;
    }

    boolean statement(String verb, String rest) {
        if (verb.equals("n")) {
            int n = Integer.parseInt(rest);
            if (n < 1 || n > 120) {
                return false;
            }
            anew(n);
            return true;
        }
        if (verb.equals("s")) {
            int k = rest.charAt(0) - '0';
            int f = rest.charAt(1) - '0';
            if (k > 6 || f < 2) {
                return false;
            }
            kind = k;
            figure = f;
            return true;
        }
        if (verb.equals("t")) {
            int k = Integer.parseInt(rest);
            if (k < 2 || steps.size() == 8) {
                return false;
            }
            steps.add(k);
            return true;
        }
        int one = Integer.parseInt(rest.split(",")[0]);
        int other = Integer.parseInt(rest.split(",")[1]);
        if (!isNumber(one) || !isNumber(other) || one == other || round > 0) {
            return false;
        }
        exchange(one, other);
        return true;
    }

    void exchange(int one, int other) {
        int p = there.indexOf(one);
        int q = there.indexOf(other);
        there.set(p, other);
        there.set(q, one);
    }

    int set(int what, int v) {
        if (what != 0 && what != 1) {
            return refuse(-2);
        }
        if (what == 0 && (v < 0 || v > 6)) {
            return refuse(-2);
        }
        if (what == 1 && v < 2) {
            return refuse(-4);
        }
        if (what == 1 && v > 9) {
            return refuse(-6);
        }
        int was = what == 0 ? kind : figure;
        if (what == 0) {
            kind = v;
        } else {
            figure = v;
        }
        return was;
    }

    int step(int k) {
        if (k < 2) {
            return refuse(-4);
        }
        if (k > 9 || steps.size() == 8) {
            return refuse(-6);
        }
        steps.add(k);
        return steps.size();
    }

    int swap(int one, int other) {
        if (!isNumber(one) || !isNumber(other) || one == other) {
            return refuse(-1);
        }
        if (round > 0) {
            return refuse(-3);
        }
        exchange(one, other);
        return 1;
    }

    int next() {
        return countOf(round + 1);
    }

    int round() {
        return round == 999 ? refuse(-6) : pass().size();
    }

    int left(int place) {
        if (place < 1) {
            return refuse(-4);
        }
        return place <= there.size() ? there.get(place - 1) : -9;
    }

    int place(int number) {
        if (!isNumber(number)) {
            return refuse(-1);
        }
        return there.contains(number) ? there.indexOf(number) + 1 : -9;
    }

    int when(int number) {
        return isNumber(number) ? fate().went.getOrDefault(number, -9) : refuse(-1);
    }

    int behind(int number, int n) {
        if (!isNumber(number)) {
            return refuse(-1);
        }
        if (n < 0) {
            return refuse(-4);
        }
        if (n > 60) {
            return refuse(-6);
        }
        PlainModel m = copy();
        for (int i = 0; i < n; i++) {
            m.pass();
        }
        return m.place(number);
    }

    int rounds() {
        return fate().rounds;
    }

    private int at(List<Integer> list, int i) {
        if (i < 0) {
            return refuse(-4);
        }
        return i < list.size() ? list.get(i) : -9;
    }

    int stays(int i) {
        return at(fate().staying, i);
    }

    int goes(int i) {
        return at(fate().going, i);
    }

    int beside(int number) {
        if (!isNumber(number)) {
            return refuse(-1);
        }
        List<Integer> staying = fate().staying;
        int i = staying.indexOf(number);
        return i >= 0 && i + 1 < staying.size() ? staying.get(i + 1) : -9;
    }

    int gap(int what) {
        if (what != 0 && what != 1) {
            return refuse(-2);
        }
        List<Integer> s = fate().staying;
        int most = -9;
        int ahead = -9;
        for (int i = s.size() - 2; i >= 0; i--) {
            int d = Math.abs(s.get(i) - s.get(i + 1));
            if (d >= most) {
                most = d;
                ahead = s.get(i);
            }
        }
        return what == 0 ? most : ahead;
    }

    int near(int m) {
        if (m < 0) {
            return refuse(-4);
        }
        if (m > 120) {
            return refuse(-6);
        }
        return (int) fate().staying.stream().filter(n -> n <= m).count();
    }

    int friends() {
        List<Integer> s = fate().staying;
        for (int p = 1; p < there.size(); p++) {
            if (s.contains(there.get(p - 1)) && s.contains(there.get(p))) {
                return p;
            }
        }
        return -9;
    }

    int byOther(int other) {
        if (other < 0 || other > 6) {
            return refuse(-2);
        }
        PlainModel m = copy();
        m.kind = other;
        return m.fate().staying.size();
    }

    int tell(int number) {
        if (number < 1) {
            return refuse(-4);
        }
        if (number > 120 || told.size() == 24) {
            return refuse(-6);
        }
        told.add(number);
        return told.size();
    }

    int judge() {
        List<Integer> t = told;
        told = new ArrayList<>();
        if (t.equals(there)) {
            return -9;
        }
        int i = 0;
        while (i < t.size() && i < there.size() && t.get(i).equals(there.get(i))) {
            i++;
        }
        return i;
    }

    private boolean staysByTold(int k, int f, int one, int other) {
        PlainModel m = copy();
        m.anew(size);
        m.kind = k;
        m.figure = f;
        if (one != other) {
            m.exchange(one, other);
        }
        return m.fate().staying.equals(told);
    }

    int find() {
        for (int k : new int[] {0, 1, 2, 3, 5, 6}) {
            for (int f = 2; f <= (k == 2 ? 9 : 2); f++) {
                if (staysByTold(k, f, 0, 0)) {
                    return k == 2 ? 20 + f : 10 * k;
                }
            }
        }
        return -9;
    }

    int seen(int what) {
        if (what != 0 && what != 1) {
            return refuse(-2);
        }
        if (size > 40) {
            return refuse(-6);
        }
        List<Integer> pairs = new ArrayList<>();
        for (int a = 1; a <= size; a++) {
            for (int b = a + 1; b <= size; b++) {
                if (staysByTold(kind, figure, a, b)) {
                    pairs.add(1000 * a + b);
                }
            }
        }
        return what == 0 ? pairs.size() : pairs.isEmpty() ? -9 : pairs.get(0);
    }

    int clear() {
        int had = told.size();
        told.clear();
        return had;
    }

    int seeds(int n, int z) {
        if (n < 1) {
            return refuse(-4);
        }
        if (n > 30) {
            return refuse(-6);
        }
        int many = there.size();
        int seed = z;
        for (int i = 0; i < n; i++) {
            seed = (int) (seed * 1103515245L + 12345L);
            many -= many / (2 + (seed >>> 16 & 0x7fff) % 8);
        }
        return many;
    }

    int image() {
        image = copy();
        return there.size();
    }

    int restore() {
        if (image == null) {
            return refuse(-3);
        }
        take(image);
        return there.size();
    }

    int count(int what) {
        if (what >= 11 && what <= 16) {
            return refusals[what - 10];
        }
        int[] counts = {size, there.size(), round, kind, figure, steps.size(), letters.length(), told.size()};
        if (what == 8) {
            return fate().staying.size();
        }
        return what >= 0 && what < counts.length ? counts[what] : -9;
    }
}
