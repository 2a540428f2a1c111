import java.util.Arrays;

/**
 * Children with numbers in a row, and strikers of seven kinds who let them go round by round.
 * Words in capitals are the terms of the document, DOC.md.
 */
public final class EachSecondStruck {
    private static final int NONE = -9;
    private static final int NO_SUCH_NUMBER = 1;
    private static final int OTHER = 2;
    private static final int STATE = 3;
    private static final int BELOW = 4;
    private static final int ROOM = 6;
    private static final long REFUSED_LONG = 4000000000000000000L;

    private static final int KINDS = 7;
    private static final int LUCK = 1;
    private static final int SAME = 2;
    private static final int TOLD = 4;
    private static final int LEAST_FIGURE = 2;
    private static final int MOST_FIGURE = 9;
    private static final int MOST_STEPS = 8;
    private static final int CHILDREN_AT_FIRST = 20;
    private static final int MOST_CHILDREN = 120;
    private static final int MOST_ROUNDS = 999;
    private static final int MOST_LETTERS = 48;
    private static final int MOST_SIGN = 255;
    private static final int MOST_TOLD = 24;

    private static final int MOST_BEHIND = 60;
    private static final int MOST_ENDLESS_STAYS = 200;
    private static final int MOST_ENDLESS_NUMBER = 1500;
    private static final int LEAST_POWER = 2;
    private static final int MOST_POWER = 5;
    private static final int MOST_POWER_PLACE = 20;
    private static final int MOST_THROWS = 12;
    private static final int MOST_SEEN_CHILDREN = 40;
    private static final int MOST_SEED_ROUNDS = 30;

    private static final int FAULT_OF_LETTER = -1000;
    private static final int FAULT_OF_STATEMENT = -2000;

    private final Next[] strikers = new Next[KINDS];
    private final Standing now = new Standing();
    /** A second standing in which rounds and statements are tried without touching the first. */
    private final Standing mind = new Standing();
    private final Standing kept = new Standing();
    private boolean hasImage;
    private final Letters letters = new Letters();
    private final EndlessRow endlessRow = new EndlessRow();
    private final int[] toldOnes = new int[MOST_TOLD];
    private int toldCount;
    private final int[] refusals = new int[ROOM + 1];

    public EachSecondStruck() {
        strikers[0] = new Next();
        strikers[LUCK] = new Luck();
        strikers[SAME] = new Same();
        strikers[3] = new Ends();
        strikers[TOLD] = new Told();
        strikers[5] = new Firsts();
        strikers[6] = new Halves();
        now.figure = LEAST_FIGURE;
        now.beginWith(CHILDREN_AT_FIRST);
    }

    public int feed(int letter) {
        if (letter < 0) {
            return refuse(BELOW);
        }
        if (letter > MOST_SIGN || letters.count >= MOST_LETTERS) {
            return refuse(ROOM);
        }
        return letters.append(letter);
    }

    public int row() {
        int answer = letters.faultPlace();
        if (answer >= 0) {
            answer = FAULT_OF_LETTER - answer;
        } else {
            mind.copyFrom(now);
            answer = carryOutStatements();
            if (answer > 0) {
                now.copyFrom(mind);
            }
        }
        letters.count = 0;
        return answer;
    }

    public int set(int what, int v) {
        if (what < 0 || what > 1) {
            return refuse(OTHER);
        }
        if (what == 0) {
            return setKind(v);
        }
        return setFigure(v);
    }

    public int step(int k) {
        if (k < LEAST_FIGURE) {
            return refuse(BELOW);
        }
        if (!now.addStep(k)) {
            return refuse(ROOM);
        }
        return now.stepCount;
    }

    public int swap(int one, int other) {
        if (!now.hasNumber(one) || !now.hasNumber(other) || one == other) {
            return refuse(NO_SUCH_NUMBER);
        }
        if (!now.changePlaces(one, other)) {
            return refuse(STATE);
        }
        return 1;
    }

    public int next() {
        return striker(now.kind).countIn(now, now.roundsBy + 1);
    }

    public int round() {
        if (now.roundsBy >= MOST_ROUNDS) {
            return refuse(ROOM);
        }
        return now.letRoundPass(striker(now.kind));
    }

    public int left(int place) {
        if (place < 1) {
            return refuse(BELOW);
        }
        return now.numberAt(place - 1);
    }

    public int place(int number) {
        if (!now.hasNumber(number)) {
            return refuse(NO_SUCH_NUMBER);
        }
        return now.placeOf(number);
    }

    public int when(int number) {
        if (!now.hasNumber(number)) {
            return refuse(NO_SUCH_NUMBER);
        }
        goToEnd();
        return mind.remains(number) ? NONE : mind.wentIn[number];
    }

    public int behind(int number, int n) {
        if (!now.hasNumber(number)) {
            return refuse(NO_SUCH_NUMBER);
        }
        if (n < 0) {
            return refuse(BELOW);
        }
        if (n > MOST_BEHIND) {
            return refuse(ROOM);
        }
        mind.copyFrom(now);
        Next striker = striker(now.kind);
        for (int i = 0; i < n; i++) {
            mind.letRoundPass(striker);
        }
        return mind.placeOf(number);
    }

    public int rounds() {
        return goToEnd();
    }

    public int stays(int i) {
        if (i < 0) {
            return refuse(BELOW);
        }
        goToEnd();
        return mind.numberAt(i);
    }

    public int goes(int i) {
        if (i < 0) {
            return refuse(BELOW);
        }
        goToEnd();
        // who went before now stands first in the order of going
        return i < now.there - mind.there ? mind.gone[now.goneCount() + i] : NONE;
    }

    public int beside(int number) {
        if (!now.hasNumber(number)) {
            return refuse(NO_SUCH_NUMBER);
        }
        goToEnd();
        int place = mind.placeOf(number);
        return place == NONE ? NONE : mind.numberAt(place);
    }

    public int gap(int what) {
        if (what < 0 || what > 1) {
            return refuse(OTHER);
        }
        goToEnd();
        int widest = NONE;
        int ahead = NONE;
        for (int i = 1; i < mind.there; i++) {
            int difference = Math.abs(mind.line[i] - mind.line[i - 1]);
            if (difference > widest) {
                widest = difference;
                ahead = mind.line[i - 1];
            }
        }
        return what == 0 ? widest : ahead;
    }

    public int near(int m) {
        if (m < 0) {
            return refuse(BELOW);
        }
        if (m > MOST_CHILDREN) {
            return refuse(ROOM);
        }
        goToEnd();
        int low = 0;
        for (int i = 0; i < mind.there; i++) {
            if (mind.line[i] <= m) {
                low++;
            }
        }
        return low;
    }

    public int friends() {
        goToEnd();
        for (int i = 1; i < now.there; i++) {
            if (mind.remains(now.line[i - 1]) && mind.remains(now.line[i])) {
                return i;
            }
        }
        return NONE;
    }

    public int byOther(int kind) {
        if (!isKind(kind)) {
            return refuse(OTHER);
        }
        mind.copyFrom(now);
        mind.goToEnd(striker(kind));
        return mind.there;
    }

    public int endless(int kind, int i) {
        if (kind < 0 || kind > SAME) {
            return refuse(OTHER);
        }
        if (i < 1) {
            return refuse(BELOW);
        }
        if (i > MOST_ENDLESS_STAYS) {
            return refuse(ROOM);
        }
        return endlessRow.numberWhoStays(kind, now.figure, i);
    }

    public int endlessWhen(int kind, int m) {
        if (kind < 0 || kind > SAME) {
            return refuse(OTHER);
        }
        if (m < 1) {
            return refuse(BELOW);
        }
        if (m > MOST_ENDLESS_NUMBER) {
            return refuse(ROOM);
        }
        return endlessRow.roundOfGoing(kind, now.figure, m);
    }

    public int powers(int k, int i) {
        if (k < LEAST_POWER || i < 1) {
            return refuse(BELOW);
        }
        if (k > MOST_POWER || i > MOST_POWER_PLACE) {
            return refuse(ROOM);
        }
        // Moessner's theorem: the sums that are left in the end are the k-th powers
        int power = 1;
        for (int factor = 0; factor < k; factor++) {
            power *= i;
        }
        return power;
    }

    public long throwsBy(int n, int part) {
        if (part < 0 || part > 1) {
            return refuseLong(OTHER);
        }
        if (n < 0) {
            return refuseLong(BELOW);
        }
        if (n > MOST_THROWS) {
            return refuseLong(ROOM);
        }
        if (now.kind == LUCK || now.kind == TOLD) {
            return refuseLong(STATE);
        }
        return partOfThrows(n, part);
    }

    public int tell(int number) {
        if (number < 1) {
            return refuse(BELOW);
        }
        if (number > MOST_CHILDREN || toldCount >= MOST_TOLD) {
            return refuse(ROOM);
        }
        toldOnes[toldCount] = number;
        toldCount++;
        return toldCount;
    }

    public int judge() {
        int shorter = Math.min(toldCount, now.there);
        int same = 0;
        while (same < shorter && toldOnes[same] == now.line[same]) {
            same++;
        }
        boolean asTold = same == toldCount && same == now.there;
        toldCount = 0;
        return asTold ? NONE : same;
    }

    public int find() {
        mind.copyFrom(now);
        for (int kind = 0; kind < KINDS; kind++) {
            int found = kind == TOLD ? NONE : findByKind(kind);
            if (found != NONE) {
                return found;
            }
        }
        return NONE;
    }

    public int seen(int what) {
        if (what < 0 || what > 1) {
            return refuse(OTHER);
        }
        if (now.size > MOST_SEEN_CHILDREN) {
            return refuse(ROOM);
        }
        mind.copyFrom(now);
        goToEndFromBeginning(now.kind, 0, 0);
        int pairs = 0;
        int first = NONE;
        for (int a = 1; a < now.size; a++) {
            for (int b = a + 1; b <= now.size; b++) {
                if (stayBySwapped(a, b)) {
                    first = pairs == 0 ? 1000 * a + b : first;
                    pairs++;
                }
            }
        }
        return what == 0 ? pairs : first;
    }

    public int clear() {
        int had = toldCount;
        toldCount = 0;
        return had;
    }

    public int seeds(int n, int z) {
        if (n < 1) {
            return refuse(BELOW);
        }
        if (n > MOST_SEED_ROUNDS) {
            return refuse(ROOM);
        }
        mind.copyFrom(now);
        int seed = z;
        for (int i = 0; i < n; i++) {
            seed = seed * 1103515245 + 12345;
            int draw = (seed & 0x7fffffff) / 65536 % 8;
            mind.strike(2 + draw, 2 + draw, false);
        }
        return mind.there;
    }

    public int image() {
        kept.copyFrom(now);
        hasImage = true;
        return now.there;
    }

    public int restore() {
        if (!hasImage) {
            return refuse(STATE);
        }
        now.copyFrom(kept);
        return now.there;
    }

    public int count(int what) {
        if (what >= 11 && what <= 16) {
            return refusals[what - 10];
        }
        switch (what) {
            case 0:
                return now.size;
            case 1:
                return now.there;
            case 2:
                return now.roundsBy;
            case 3:
                return now.kind;
            case 4:
                return now.figure;
            case 5:
                return now.stepCount;
            case 6:
                return letters.count;
            case 7:
                return toldCount;
            case 8:
                goToEnd();
                return mind.there;
            default:
                return NONE;
        }
    }

    private int refuse(int number) {
        if (number >= 0 && number < refusals.length) {
            refusals[number]++;
        }
        return -number;
    }

    private long refuseLong(int number) {
        return REFUSED_LONG - refuse(number);
    }

    private static boolean isKind(int kind) {
        return kind >= 0 && kind < KINDS;
    }

    private static boolean isFigure(int figure) {
        return figure >= LEAST_FIGURE && figure <= MOST_FIGURE;
    }

    private Next striker(int kind) {
        return isKind(kind) ? strikers[kind] : strikers[0];
    }

    private int setKind(int kind) {
        // a KIND that there is not is OTHER, which is told ahead of BELOW and ROOM
        if (!isKind(kind)) {
            return refuse(OTHER);
        }
        int before = now.kind;
        now.kind = kind;
        return before;
    }

    private int setFigure(int figure) {
        if (figure < LEAST_FIGURE) {
            return refuse(BELOW);
        }
        if (figure > MOST_FIGURE) {
            return refuse(ROOM);
        }
        int before = now.figure;
        now.figure = figure;
        return before;
    }

    /** THE END, tried in mind from now: how many ROUNDS go by ahead of it. */
    private int goToEnd() {
        mind.copyFrom(now);
        return mind.goToEnd(striker(now.kind));
    }

    /** THE END in mind from the beginning, two having changed places there (none for 0). */
    private void goToEndFromBeginning(int kind, int one, int other) {
        mind.beginWith(now.size);
        mind.changePlaces(one, other);
        mind.goToEnd(striker(kind));
    }

    /** The letters' statements, tried in mind: how many, or the FAULT of the first wrong one. */
    private int carryOutStatements() {
        int statements = 0;
        letters.readAt = 0;
        for (int i = 0; i < MOST_LETTERS && letters.readAt < letters.count; i++) {
            int start = letters.readAt;
            if (!letters.readStatement() || !carryOut()) {
                return FAULT_OF_STATEMENT - start;
            }
            statements++;
        }
        return statements;
    }

    private boolean carryOut() {
        int first = letters.first;
        int second = letters.second;
        switch (letters.verb) {
            case 'n':
                return mind.beginWith(first);
            case 's':
                if (!isKind(first) || !isFigure(second)) {
                    return false;
                }
                mind.kind = first;
                mind.figure = second;
                return true;
            case 't':
                return mind.addStep(first);
            case 'x':
                return mind.changePlaces(first, second);
            default:
                return false;
        }
    }

    private long partOfThrows(int n, int part) {
        Next striker = striker(now.kind);
        long above = 1;
        long below = 1;
        for (int i = 1; i <= n; i++) {
            int count = striker.countIn(now, now.roundsBy + i);
            above *= count - 1;
            below *= count;
            // least terms at once, lest the products grow beyond a long
            long divisor = greatestDivisor(above, below);
            above /= divisor;
            below /= divisor;
        }
        return part == 0 ? above : below;
    }

    private static long greatestDivisor(long one, long other) {
        long larger = Math.abs(one);
        long smaller = Math.abs(other);
        for (int i = 0; i < 200 && smaller > 0; i++) {
            long rest = larger % smaller;
            larger = smaller;
            smaller = rest;
        }
        return Math.max(larger, 1);
    }

    private int findByKind(int kind) {
        int mostFigure = kind == SAME ? MOST_FIGURE : LEAST_FIGURE;
        for (int figure = LEAST_FIGURE; figure <= mostFigure; figure++) {
            mind.figure = figure;
            goToEndFromBeginning(kind, 0, 0);
            if (stayAsTold(0, 0)) {
                return 10 * kind + (kind == SAME ? figure : 0);
            }
        }
        return NONE;
    }

    /** The mind holds THE END from the beginning, without a swap or (LUCK) by an earlier one. */
    private boolean stayBySwapped(int a, int b) {
        if (now.kind == LUCK) {
            // it counts by numbers, so a swap changes who goes
            goToEndFromBeginning(LUCK, a, b);
            return stayAsTold(0, 0);
        }
        // all others count by places alone: the same places stay whoever stands there
        return stayAsTold(a, b);
    }

    /** Whether those left in mind, with a and b put for each other, are just the told ones. */
    private boolean stayAsTold(int a, int b) {
        if (mind.there != toldCount) {
            return false;
        }
        for (int i = 0; i < toldCount; i++) {
            int number = mind.line[i];
            int put = number == a ? b : number == b ? a : number;
            if (put != toldOnes[i]) {
                return false;
            }
        }
        return true;
    }

    /** NEXT, and what the other strikers share with it. */
    private static class Next {
        int countIn(Standing standing, int r) {
            return r + 1;
        }

        boolean isFromBack(int r) {
            return false;
        }

        int firstPlace(int count) {
            return count;
        }

        /** How many rounds one behind the other nobody must go in for THE END. */
        int idleRoundsToEnd(Standing standing) {
            return 1;
        }
    }

    private static final class Luck extends Next {
        @Override
        int countIn(Standing standing, int r) {
            if (r <= 1) {
                return 2;
            }
            int number = r <= standing.there ? standing.numberAt(r - 1) : standing.there + 1;
            return Math.max(number, 2);
        }
    }

    private static class Same extends Next {
        @Override
        int countIn(Standing standing, int r) {
            return standing.figure;
        }
    }

    private static class Ends extends Next {
        @Override
        boolean isFromBack(int r) {
            return r % 2 == 0;
        }
    }

    private static final class Told extends Same {
        @Override
        int countIn(Standing standing, int r) {
            if (standing.stepCount <= 0 || r < 1) {
                return super.countIn(standing, r);
            }
            return standing.steps[(r - 1) % standing.stepCount];
        }

        @Override
        int idleRoundsToEnd(Standing standing) {
            return Math.max(standing.stepCount, 1);
        }
    }

    private static final class Firsts extends Next {
        @Override
        int firstPlace(int count) {
            return 1;
        }
    }

    private static final class Halves extends Ends {
        @Override
        int countIn(Standing standing, int r) {
            return 2;
        }
    }

    /** All that an image holds: the children, who is gone and when, and what the strikers go by. */
    private static final class Standing {
        /** Above what any run needs: each lot of 8 rounds before THE END lets one of 120 go. */
        private static final int ROUNDS_TO_END = 2000;

        int size;
        int there;
        int roundsBy;
        int kind;
        int figure;
        int stepCount;
        final int[] steps = new int[MOST_STEPS];
        final int[] line = new int[MOST_CHILDREN];
        /** The order of going from the beginning; together with the line it has every number once. */
        final int[] gone = new int[MOST_CHILDREN];
        /** By number: the round in which it went, 0 while it is there. */
        final int[] wentIn = new int[MOST_CHILDREN + 1];

        void copyFrom(Standing other) {
            size = other.size;
            there = other.there;
            roundsBy = other.roundsBy;
            kind = other.kind;
            figure = other.figure;
            stepCount = other.stepCount;
            System.arraycopy(other.steps, 0, steps, 0, MOST_STEPS);
            System.arraycopy(other.line, 0, line, 0, MOST_CHILDREN);
            System.arraycopy(other.gone, 0, gone, 0, MOST_CHILDREN);
            System.arraycopy(other.wentIn, 0, wentIn, 0, MOST_CHILDREN + 1);
        }

        /** All begins anew with n children in their order; false where there can't be so many. */
        boolean beginWith(int n) {
            if (n < 1 || n > MOST_CHILDREN) {
                return false;
            }
            size = n;
            there = n;
            roundsBy = 0;
            Arrays.fill(wentIn, 0);
            for (int i = 0; i < n; i++) {
                line[i] = i + 1;
            }
            return true;
        }

        boolean addStep(int k) {
            if (!isFigure(k) || stepCount >= MOST_STEPS) {
                return false;
            }
            steps[stepCount] = k;
            stepCount++;
            return true;
        }

        /** False where two can't change places: a number that is none, one twice, a round went by. */
        boolean changePlaces(int one, int other) {
            if (!hasNumber(one) || !hasNumber(other) || one == other || roundsBy > 0) {
                return false;
            }
            int placeOfOne = placeOf(one);
            int placeOfOther = placeOf(other);
            if (placeOfOne < 1 || placeOfOther < 1) {
                return false;
            }
            line[placeOfOne - 1] = other;
            line[placeOfOther - 1] = one;
            return true;
        }

        boolean hasNumber(int number) {
            return number >= 1 && number <= size;
        }

        boolean remains(int number) {
            return hasNumber(number) && wentIn[number] == 0;
        }

        int goneCount() {
            return size - there;
        }

        int numberAt(int index) {
            return index >= 0 && index < there ? line[index] : NONE;
        }

        int placeOf(int number) {
            for (int i = 0; i < there; i++) {
                if (line[i] == number) {
                    return i + 1;
                }
            }
            return NONE;
        }

        /** A ROUND goes by: how many go. */
        int letRoundPass(Next striker) {
            int r = roundsBy + 1;
            int count = striker.countIn(this, r);
            return strike(count, striker.firstPlace(count), striker.isFromBack(r));
        }

        /** A ROUND in which the child on the first place told and each count-th behind it go. */
        int strike(int count, int first, boolean fromBack) {
            roundsBy++;
            int before = there;
            int apart = Math.max(count, 1);
            int goneNow = goneCount();
            for (int place = Math.max(first, 1); place <= before; place += apart) {
                int index = fromBack ? before - place : place - 1;
                int number = line[index];
                wentIn[number] = roundsBy;
                gone[goneNow] = number;
                goneNow++;
            }
            closeUp();
            return before - there;
        }

        /** Those who did not go close up, as they stood. */
        private void closeUp() {
            int kept = 0;
            for (int i = 0; i < there; i++) {
                int number = line[i];
                if (wentIn[number] == 0) {
                    line[kept] = number;
                    kept++;
                }
            }
            there = kept;
        }

        /** Rounds go by till THE END is sure: how many went by ahead of it. */
        int goToEnd(Next striker) {
            int idleToEnd = striker.idleRoundsToEnd(this);
            int idle = 0;
            int by = 0;
            while (by < ROUNDS_TO_END && idle < idleToEnd) {
                by++;
                idle = letRoundPass(striker) > 0 ? 0 : idle + 1;
            }
            return by - idle;
        }
    }

    /** The letters of a ROW, and the statement that was read last. */
    private static final class Letters {
        private static final int DIGITS_OF_NUMBER = 3;

        final int[] signs = new int[MOST_LETTERS];
        int count;
        int readAt;
        int verb;
        int first;
        int second;

        int append(int letter) {
            if (count < MOST_LETTERS) {
                signs[count] = letter;
                count++;
            }
            return count;
        }

        /** The place of the first letter with which no ROW can go on; -9 there is none. */
        int faultPlace() {
            readAt = 0;
            int statements = 0;
            while (statements <= MOST_LETTERS && (statements == 0 || readAt < count)) {
                if (!readStatement()) {
                    return readAt;
                }
                statements++;
            }
            return NONE;
        }

        /** Where a letter does not fit, it answers false and the reading place stays on that letter. */
        boolean readStatement() {
            verb = sign();
            second = 0;
            switch (verb) {
                case 'n':
                    readAt++;
                    return readFirst(DIGITS_OF_NUMBER) && take(';');
                case 's':
                    readAt++;
                    return readFirst(1) && readSecond(1) && take(';');
                case 't':
                    readAt++;
                    return readFirst(1) && take(';');
                case 'x':
                    readAt++;
                    return readFirst(DIGITS_OF_NUMBER) && take(',')
                        && readSecond(DIGITS_OF_NUMBER) && take(';');
                default:
                    return false;
            }
        }

        private boolean readFirst(int mostDigits) {
            first = readNumber(mostDigits);
            return first >= 0;
        }

        private boolean readSecond(int mostDigits) {
            second = readNumber(mostDigits);
            return second >= 0;
        }

        /** A number of one digit at least; -9 where there is no digit. */
        private int readNumber(int mostDigits) {
            int number = NONE;
            for (int i = 0; i < mostDigits && isDigit(sign()); i++) {
                number = Math.max(number, 0) * 10 + sign() - '0';
                readAt++;
            }
            return number;
        }

        private static boolean isDigit(int sign) {
            return sign >= '0' && sign <= '9';
        }

        private boolean take(int sign) {
            if (sign() != sign) {
                return false;
            }
            readAt++;
            return true;
        }

        /** The letter at the reading place; behind the last one a sign that no letter is. */
        private int sign() {
            return readAt >= 0 && readAt < count && readAt < MOST_LETTERS ? signs[readAt] : NONE;
        }
    }

    /** The row of all numbers: places in it are followed up and down through the rounds. */
    private static final class EndlessRow {
        /** Beyond these rounds a LUCK counts farther than any place that is asked for. */
        private static final int LUCK_ROUNDS = 64;
        private static final int OUT_OF_REACH = 1000000;

        private final int[] luckCounts = new int[LUCK_ROUNDS + 1];

        EndlessRow() {
            luckCounts[1] = 2;
            for (int r = 2; r <= LUCK_ROUNDS; r++) {
                luckCounts[r] = goUp(LUCK, LEAST_FIGURE, r, r - 1);
            }
        }

        int numberWhoStays(int kind, int figure, int i) {
            if (kind == SAME && i >= figure) {
                // each place from the figure on is struck, now or when it has come down to it
                return NONE;
            }
            return goUp(kind, figure, i, kind == LUCK ? LUCK_ROUNDS : i);
        }

        int roundOfGoing(int kind, int figure, int number) {
            int place = number;
            for (int r = 1; r <= number; r++) {
                int count = countIn(kind, figure, r);
                if (count < 2 || place < count) {
                    // no later round counts less, and a place ahead of the count stays as it is
                    return NONE;
                }
                if (place % count == 0) {
                    return r;
                }
                place -= place / count;
            }
            return NONE;
        }

        /** From a place behind the last round up to the place, and so the number, at the beginning. */
        private int goUp(int kind, int figure, int place, int lastRound) {
            int r = 0;
            // rounds that count beyond the place leave it as it is
            while (r < lastRound && countIn(kind, figure, r + 1) <= place) {
                r++;
            }
            int up = place;
            for (; r >= 1; r--) {
                up += (up - 1) / Math.max(countIn(kind, figure, r) - 1, 1);
            }
            return up;
        }

        private int countIn(int kind, int figure, int r) {
            if (kind == LUCK) {
                return r >= 1 && r < luckCounts.length ? luckCounts[r] : OUT_OF_REACH;
            }
            return kind == SAME ? figure : r + 1;
        }
    }
}
