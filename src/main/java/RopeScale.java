import java.util.Arrays;

/**
 * A rope walk that is tightened for whoever goes over by what stands on the scale at its foot.
 * The words in the comments (walker, here, over, told, tape, fault ..) are those of the document.
 */
public final class RopeScale {

    public static final int NONE = -1;

    private static final int WALKERS = 16;
    private static final int HEAVIEST = 999;
    private static final int MOST_BATHS = 999;
    private static final int MOST_HURT = 9999;
    private static final int LAST_HOUR = 9999;
    private static final int MOST_HOURS = 240;
    private static final int LONGEST_LAW = 240;
    private static final int LONGEST_LINES = 120;
    private static final int WHOLE_PARTY = 100;
    private static final int TRIED_WEIGHT = 100;
    private static final int TRIED_HURT = 200;

    private static final int CAN_NOT_BE = -2;
    private static final int CONTRADICTION = -3;
    private static final int ZERO_STONE = -3;
    private static final int NO_SUCH_PLACE = -4;

    private final Tape tape = new Tape();
    private final Cursor cursor = new Cursor(tape);
    private final Walk now = new Walk();
    private final Walk kept = new Walk();
    private final Walk trial = new Walk();
    private final Rope rope = new Rope();
    private final Orders given = new Orders();
    private final LawReader lawReader = new LawReader(cursor);
    private final Choices choices = new Choices();
    private final Rank rank = new Rank();
    private final Pans pans = new Pans();
    // What is read anew goes into the spare one, so that a fault leaves the one before as it is.
    private Law valid = new Law();
    private Law spareLaw = new Law();
    private Weighings told = new Weighings();
    private Weighings spareWeighings = new Weighings();
    private boolean anyKept = false;

    public RopeScale() {
    }

    public boolean walker(int p, int weight) {
        if (!isWalker(p) || !isWithin(weight, 1, HEAVIEST)) {
            return false;
        }
        now.tell(p, weight);
        return true;
    }

    public boolean rules(int tolerance, int toe) {
        if (!isWithin(tolerance, 0, 99) || !isWithin(toe, 0, 99)) {
            return false;
        }
        rope.tolerance = tolerance;
        rope.toe = toe;
        return true;
    }

    public int feed(int a, int b, int c, int d, int e) {
        if (!tape.hasRoom()) {
            return NONE;
        }
        tape.append(a);
        tape.append(b);
        tape.append(c);
        tape.append(d);
        tape.append(e);
        return tape.length;
    }

    public int law(int n) {
        if (!tape.offers(n, 1, LONGEST_LAW)) {
            return NONE;
        }
        cursor.start(n);
        lawReader.read(spareLaw);
        tape.clear();
        if (cursor.isFaulty()) {
            return cursor.fault;
        }
        Law before = valid;
        valid = spareLaw;
        spareLaw = before;
        return valid.rules;
    }

    public int orders(int n) {
        if (!tape.offers(n, 1, LONGEST_LINES)) {
            return NONE;
        }
        cursor.start(n);
        given.read(cursor, now.told);
        tape.clear();
        if (cursor.isFaulty()) {
            return cursor.fault;
        }
        given.carryOut(now);
        return given.lines;
    }

    public int weighings(int n) {
        if (!tape.offers(n, 1, LONGEST_LINES)) {
            return NONE;
        }
        cursor.start(n);
        spareWeighings.read(cursor);
        tape.clear();
        if (cursor.isFaulty()) {
            return cursor.fault;
        }
        Weighings before = told;
        told = spareWeighings;
        spareWeighings = before;
        return told.lines;
    }

    public int hours(int n) {
        if (!isWithin(n, 1, MOST_HOURS)) {
            return NONE;
        }
        rope.pass(now, valid, n);
        return rope.gotOver;
    }

    public int tried(int n, int what) {
        if (!isWithin(n, 1, MOST_HOURS) || !canBeTried(what)) {
            return NONE;
        }
        trial.copyFrom(now);
        rope.pass(trial, valid, n);
        if (what >= TRIED_HURT) {
            return trial.factOf(what - TRIED_HURT, 4);
        }
        if (what >= TRIED_WEIGHT) {
            return trial.factOf(what - TRIED_WEIGHT, 0);
        }
        switch (what) {
            case 0: return rope.gotOver;
            case 1: return rope.baths;
            case 2: return rope.flung;
            case 3: return Integer.bitCount(trial.over);
            default: return rope.toes;
        }
    }

    private boolean canBeTried(int what) {
        return isWithin(what, 0, 4) || now.knows(what - TRIED_WEIGHT) || now.knows(what - TRIED_HURT);
    }

    public int walkerIs(int p, int what) {
        return now.factOf(p, what);
    }

    public int standsFor(int p, int what) {
        if (!now.knows(p) || !isWithin(what, 0, 1)) {
            return NONE;
        }
        choices.weigh(now.weight);
        int best = choices.nearest(now.othersHere(p), now.weight[p]);
        return what == 0 ? best : Math.abs(choices.sum(best) - now.weight[p]);
    }

    public int colonel(int p, int k) {
        if (!now.knows(p) || !isWithin(k, 1, WALKERS - 1)) {
            return NONE;
        }
        choices.weigh(now.weight);
        return choices.ways(now.othersHere(p), k, now.weight[p], rope.tolerance);
    }

    public int party(int walkers, int stone, int what) {
        int size = Integer.bitCount(walkers);
        boolean isPlace = isWithin(what, 0, Choices.LARGEST_PARTY - 1);
        if (!isWithin(walkers, 1, (1 << WALKERS) - 1) || size > Choices.LARGEST_PARTY
                || !isWithin(stone, 0, HEAVIEST) || !isPlace && what != WHOLE_PARTY) {
            return NONE;
        }
        if ((walkers & now.here()) != walkers) {
            return CAN_NOT_BE;
        }
        int most = choices.lead(walkers, now.weight, stone, rope.tolerance);
        if (what == WHOLE_PARTY) {
            return most;
        }
        return what < most ? choices.whoGoesAt(what) : NO_SUCH_PLACE;
    }

    public int areTrue(int what) {
        if (!isWithin(what, 0, 3)) {
            return NONE;
        }
        int[] weights = (what & 1) == 0 ? now.weight : now.claim;
        choices.weigh(weights);
        return what < 2 ? told.howManySo(choices, now.told) : told.firstNotSo(choices, now.told);
    }

    public int odd(int what) {
        switch (what) {
            case 0: return told.couldBeOdd(true);
            case 1: return told.couldBeOdd(false);
            case 2: return told.couldBeAlike() ? 1 : 0;
            default: return NONE;
        }
    }

    public int heavier(int p, int what) {
        if (!isWalker(p) || !isWithin(what, 0, 1)) {
            return NONE;
        }
        rank.find(told);
        if (rank.contradictsItself()) {
            return CONTRADICTION;
        }
        return what == 0 ? rank.lighter[p] : rank.alike[p];
    }

    public int pairs(int apart) {
        return isWithin(apart, 0, HEAVIEST) ? choices.mostTwos(now, apart) : NONE;
    }

    public int liars(int what) {
        switch (what) {
            case 0: return now.whoLies();
            case 1: return now.greatestLiar() == NONE ? 0 : now.lieOf(now.greatestLiar());
            case 2: return now.greatestLiar() == NONE ? CAN_NOT_BE : now.greatestLiar();
            default: return NONE;
        }
    }

    public int teams(int what) {
        if (!isWithin(what, 0, 1)) {
            return NONE;
        }
        choices.weigh(now.weight);
        int team = choices.evenTeam(now.told);
        return what == 1 ? team : choices.unevenness(team, now.told);
    }

    public int share(int toll, int p) {
        return now.knows(p) && isWithin(toll, 0, 99999) ? now.partOf(toll, p) : NONE;
    }

    public int stones(int n, boolean both) {
        if (!tape.offers(n, 1, Pans.MOST_STONES)) {
            return NONE;
        }
        pans.take(tape, n);
        return pans.hasZero() ? CAN_NOT_BE : pans.weighsUpTo(both);
    }

    public int fewest(int n, int weight) {
        if (!isWithin(weight, 1, Pans.HEAVIEST_SUM) || !tape.offers(n, 1, Pans.MOST_STONES)) {
            return NONE;
        }
        pans.take(tape, n);
        if (pans.hasZero()) {
            return ZERO_STONE;
        }
        int least = pans.fewestFor(weight);
        return least == NONE ? CAN_NOT_BE : least;
    }

    public int seesaw(int n) {
        if (!tape.offers(n, 1, Pans.SEESAW_PLACES)) {
            return NONE;
        }
        pans.take(tape, n);
        return pans.hasZero() ? CAN_NOT_BE : pans.evenAtBest();
    }

    public int row(int n, int what) {
        if (!isWithin(what, 0, 1) || !tape.offers(n, 1, Pans.LONGEST_ROW)) {
            return NONE;
        }
        pans.take(tape, n);
        return what == 0 ? n - pans.mostThatRise(false) : pans.mostThatRise(true);
    }

    public int falseOne(int n, boolean heavy) {
        if (!isWithin(n, 1, 9999)) {
            return NONE;
        }
        if (!heavy && n < 3) {
            return CAN_NOT_BE;
        }
        // 2 n + 3 <= 3 to the w-th says the same as n <= (3 to the w-th, less 3) halved.
        int needed = heavy ? n : 2 * n + 3;
        int times = 0;
        for (int power = 1; power < needed && times < 12; power *= 3) {
            times++;
        }
        return times;
    }

    public int scales(int n, int sides, int what) {
        if (!isWithin(sides, 0, 1023) || !isWithin(what, 0, 1) || !tape.offers(n, 1, 10)) {
            return NONE;
        }
        pans.take(tape, n);
        return what == 0 ? pans.timesLeftHeavier(sides) : pans.mostLeftHeavier(sides);
    }

    public boolean seed(int x) {
        if (!isWithin(x, 0, 65535)) {
            return false;
        }
        now.x = x;
        return true;
    }

    public int keep() {
        kept.copyFrom(now);
        anyKept = true;
        return now.hour;
    }

    public boolean undo() {
        if (anyKept) {
            now.copyFrom(kept);
        }
        return anyKept;
    }

    public int check(int n) {
        if (!tape.offers(n, 0, WALKERS)) {
            return CAN_NOT_BE;
        }
        int wrong = NONE;
        for (int p = n - 1; p >= 0; p--) {
            int weight = now.knows(p) ? now.weight[p] % 256 : 0;
            if (tape.at(p) != weight) {
                wrong = p;
            }
        }
        tape.clear();
        return wrong;
    }

    public int count(int what) {
        switch (what) {
            case 0: return now.hour;
            case 1: return now.told;
            case 2: return now.over;
            case 3: return told.lines;
            case 4: return valid.rules;
            case 5: return tape.length;
            case 6: return now.x;
            case 7: return rope.tolerance;
            case 8: return rope.toe;
            case 9: return told.letters();
            case 10: return now.total(now.baths);
            case 11: return now.total(now.weight);
            default: return NONE;
        }
    }

    private static boolean isWithin(int number, int least, int most) {
        return number >= least && number <= most;
    }

    private static boolean isWalker(int p) {
        return isWithin(p, 0, WALKERS - 1);
    }

    private static boolean has(int bits, int p) {
        return (bits >> p & 1) != 0;
    }

    private static int bounded(int number, int least, int most) {
        return Math.max(least, Math.min(most, number));
    }

    /** The bytes that were fed and not yet used. */
    private static final class Tape {
        static final int MOST = 260;
        static final int FED = 20;

        private final int[] bytes = new int[MOST];
        int length = 0;

        boolean hasRoom() {
            return length + FED <= MOST;
        }

        void append(int four) {
            for (int shift = 24; shift >= 0 && length < MOST; shift -= 8) {
                bytes[length] = four >> shift & 255;
                length++;
            }
        }

        boolean offers(int n, int least, int most) {
            return isWithin(n, least, most) && n <= length;
        }

        int at(int place) {
            return place >= 0 && place < length ? bytes[place] : NONE;
        }

        void clear() {
            length = 0;
        }
    }

    /** Goes over a text on the tape from the left, and holds the first fault that is told of it. */
    private static final class Cursor {
        static final int MISPLACED = 1;
        static final int TOO_MANY_DIGITS = 2;
        static final int ZERO = 3;
        static final int TOO_MANY_LINES = 4;
        static final int TOO_DEEP = 5;
        static final int TWICE = 6;
        static final int NOT_TOLD = 7;

        private final Tape tape;
        private int end = 0;
        int place = 0;
        // The byte that stands here; NONE, which no text can hold, at the end.
        int sign = NONE;
        int fault = 0;

        Cursor(Tape tape) {
            this.tape = tape;
        }

        void start(int n) {
            end = n;
            fault = 0;
            place = -1;
            next();
        }

        void next() {
            place = Math.min(place + 1, end);
            sign = place < end ? tape.at(place) : NONE;
        }

        boolean isFaulty() {
            return fault != 0;
        }

        void fail(int number, int where) {
            if (fault == 0) {
                fault = -1000 * number - where;
            }
        }

        void failHere(int number) {
            fail(number, place);
        }

        boolean sees(int wanted) {
            return fault == 0 && sign == wanted;
        }

        boolean take(int wanted) {
            if (!sees(wanted)) {
                failHere(MISPLACED);
                return false;
            }
            next();
            return true;
        }

        /** Whether a line begins here; behind the first one, only a ; or the end can stand. */
        boolean begins(int line) {
            if (isFaulty() || line > 0 && place == end) {
                return false;
            }
            return line == 0 || take(';');
        }

        boolean seesDigit() {
            return isWithin(sign, '0', '9');
        }

        int readNumber(int mostDigits) {
            int value = 0;
            int digits = 0;
            while (digits < mostDigits && seesDigit()) {
                value = value * 10 + sign - '0';
                digits++;
                next();
            }
            if (digits == 0) {
                failHere(MISPLACED);
            } else if (seesDigit()) {
                failHere(TOO_MANY_DIGITS);
            }
            return value;
        }

        /** The number of the walker whose letter stands here, or NONE. */
        int seenWalker() {
            int p = sign - 'a';
            return isWalker(p) ? p : NONE;
        }
    }

    /** All that is kept and undone: the walkers, the hour, and where the draws are. */
    private static final class Walk {
        final int[] weight = new int[WALKERS];
        final int[] claim = new int[WALKERS];
        final int[] baths = new int[WALKERS];
        final int[] hurt = new int[WALKERS];
        int told = 0;
        int over = 0;
        int hour = 0;
        int x = 1;

        void copyFrom(Walk other) {
            System.arraycopy(other.weight, 0, weight, 0, WALKERS);
            System.arraycopy(other.claim, 0, claim, 0, WALKERS);
            System.arraycopy(other.baths, 0, baths, 0, WALKERS);
            System.arraycopy(other.hurt, 0, hurt, 0, WALKERS);
            told = other.told;
            over = other.over;
            hour = other.hour;
            x = other.x;
        }

        void tell(int p, int itsWeight) {
            weight[p] = itsWeight;
            claim[p] = itsWeight;
            baths[p] = 0;
            hurt[p] = 0;
            told |= 1 << p;
            over &= ~(1 << p);
        }

        boolean knows(int p) {
            return isWalker(p) && has(told, p);
        }

        int here() {
            return told & ~over;
        }

        int othersHere(int p) {
            return here() & ~(1 << p);
        }

        int factOf(int p, int what) {
            if (!knows(p)) {
                return NONE;
            }
            switch (what) {
                case 0: return weight[p];
                case 1: return claim[p];
                case 2: return over >> p & 1;
                case 3: return baths[p];
                case 4: return hurt[p];
                default: return NONE;
            }
        }

        void changeWeight(int p, int by) {
            weight[p] = bounded(weight[p] + by, 1, HEAVIEST);
        }

        int draw() {
            x = (25173 * x + 13849) & 65535;
            return x % 10;
        }

        int total(int[] facts) {
            int sum = 0;
            for (int p = 0; p < WALKERS; p++) {
                sum += has(told, p) ? facts[p] : 0;
            }
            return sum;
        }

        int lieOf(int p) {
            return has(told, p) ? Math.abs(claim[p] - weight[p]) : 0;
        }

        int whoLies() {
            int bits = 0;
            for (int p = 0; p < WALKERS; p++) {
                bits |= lieOf(p) > 0 ? 1 << p : 0;
            }
            return bits;
        }

        int greatestLiar() {
            int greatest = 0;
            int whose = NONE;
            for (int p = 0; p < WALKERS; p++) {
                if (lieOf(p) > greatest) {
                    greatest = lieOf(p);
                    whose = p;
                }
            }
            return whose;
        }

        int partOf(int toll, int p) {
            int all = total(weight);
            if (all == 0) {
                return 0;
            }
            int leftOut = toll * weight[p] % all;
            int pennies = toll;
            int ahead = 0;
            for (int q = 0; q < WALKERS; q++) {
                if (has(told, q)) {
                    int rest = toll * weight[q] % all;
                    pennies -= toll * weight[q] / all;
                    ahead += rest > leftOut || rest == leftOut && q < p ? 1 : 0;
                }
            }
            return toll * weight[p] / all + (ahead < pennies ? 1 : 0);
        }
    }

    /** Orders that were read, held until it is sure that none of them has a fault. */
    private static final class Orders {
        static final int MOST_LINES = 20;

        private final int[] who = new int[MOST_LINES];
        private final int[] deed = new int[MOST_LINES];
        private final int[] number = new int[MOST_LINES];
        int lines = 0;

        void read(Cursor cursor, int told) {
            lines = 0;
            for (int line = 0; line <= MOST_LINES && cursor.begins(line); line++) {
                readLine(cursor, told, line);
            }
        }

        private void readLine(Cursor cursor, int told, int line) {
            int p = cursor.seenWalker();
            if (p == NONE) {
                cursor.failHere(Cursor.MISPLACED);
            } else if (line >= MOST_LINES) {
                cursor.failHere(Cursor.TOO_MANY_LINES);
            } else if (!has(told, p)) {
                cursor.failHere(Cursor.NOT_TOLD);
            } else {
                cursor.next();
                who[line] = p;
                deed[line] = cursor.sign;
                number[line] = readDeed(cursor);
                lines = line + 1;
            }
        }

        private static int readDeed(Cursor cursor) {
            int sign = cursor.sign;
            boolean isSet = sign == '=' || sign == '?';
            boolean isChanged = sign == '+' || sign == '-';
            if (!isSet && !isChanged && sign != '>' && sign != '<') {
                cursor.failHere(Cursor.MISPLACED);
                return 0;
            }
            cursor.next();
            if (!isSet && !isChanged) {
                return 0;
            }
            int first = cursor.place;
            int value = cursor.readNumber(3);
            if (isSet && value == 0) {
                cursor.fail(Cursor.ZERO, first);
            }
            return value;
        }

        void carryOut(Walk walk) {
            for (int line = 0; line < lines; line++) {
                int p = who[line];
                switch (deed[line]) {
                    case '=': walk.weight[p] = number[line]; break;
                    case '?': walk.claim[p] = number[line]; break;
                    case '+': walk.changeWeight(p, number[line]); break;
                    case '-': walk.changeWeight(p, -number[line]); break;
                    case '>': walk.over |= 1 << p; break;
                    default: walk.over &= ~(1 << p); break;
                }
            }
        }
    }

    /** Weighings as they were told, and what can be said of each of them alone. */
    private static final class Weighings {
        static final int MOST_LINES = 16;

        final int[] left = new int[MOST_LINES];
        final int[] right = new int[MOST_LINES];
        final int[] outcome = new int[MOST_LINES];
        int lines = 0;

        void read(Cursor cursor) {
            lines = 0;
            for (int line = 0; line <= MOST_LINES && cursor.begins(line); line++) {
                readLine(cursor, line);
            }
        }

        private void readLine(Cursor cursor, int line) {
            if (cursor.seenWalker() == NONE) {
                cursor.failHere(Cursor.MISPLACED);
            } else if (line >= MOST_LINES) {
                cursor.failHere(Cursor.TOO_MANY_LINES);
            } else {
                left[line] = readSide(cursor, 0);
                outcome[line] = cursor.sign;
                if (isOutcome(outcome[line])) {
                    cursor.next();
                    right[line] = readSide(cursor, left[line]);
                } else {
                    cursor.failHere(Cursor.MISPLACED);
                }
                lines = line + 1;
            }
        }

        private static int readSide(Cursor cursor, int otherSide) {
            int side = 0;
            for (int letters = 0; letters <= WALKERS && cursor.seenWalker() != NONE; letters++) {
                int p = cursor.seenWalker();
                if (has(side | otherSide, p)) {
                    cursor.failHere(Cursor.TWICE);
                }
                side |= 1 << p;
                cursor.next();
            }
            if (side == 0) {
                cursor.failHere(Cursor.MISPLACED);
            }
            return side;
        }

        static boolean isOutcome(int sign) {
            return sign == '<' || sign == '>' || sign == '=';
        }

        int letters() {
            int bits = 0;
            for (int line = 0; line < lines; line++) {
                bits |= left[line] | right[line];
            }
            return bits;
        }

        private boolean isAside(int line, int toldWalkers) {
            return ((left[line] | right[line]) & ~toldWalkers) != 0;
        }

        private boolean isSo(int line, Choices weights) {
            return outcome[line] == outcomeOf(weights.sum(left[line]), weights.sum(right[line]));
        }

        private static int outcomeOf(int leftWeight, int rightWeight) {
            if (leftWeight == rightWeight) {
                return '=';
            }
            return leftWeight < rightWeight ? '<' : '>';
        }

        int howManySo(Choices weights, int toldWalkers) {
            int many = 0;
            for (int line = 0; line < lines; line++) {
                many += !isAside(line, toldWalkers) && isSo(line, weights) ? 1 : 0;
            }
            return many;
        }

        int firstNotSo(Choices weights, int toldWalkers) {
            for (int line = 0; line < lines; line++) {
                if (!isAside(line, toldWalkers) && !isSo(line, weights)) {
                    return line;
                }
            }
            return CAN_NOT_BE;
        }

        private boolean isFair(int line) {
            return Integer.bitCount(left[line]) == Integer.bitCount(right[line]);
        }

        /** Whether all fair lines come out as they did, if so much is added on the walkers of these bits. */
        private boolean agree(int bits, int added) {
            for (int line = 0; line < lines; line++) {
                int onLeft = (left[line] & bits) != 0 ? added : 0;
                int onRight = (right[line] & bits) != 0 ? added : 0;
                if (isFair(line) && outcome[line] != outcomeOf(onLeft, onRight)) {
                    return false;
                }
            }
            return true;
        }

        int couldBeOdd(boolean heavy) {
            int named = letters();
            int bits = 0;
            for (int p = 0; p < WALKERS; p++) {
                if (has(named, p) && agree(1 << p, heavy ? 1 : -1)) {
                    bits |= 1 << p;
                }
            }
            return bits;
        }

        boolean couldBeAlike() {
            return agree(0, 0);
        }
    }

    /** Who must be heavier than whom, by the weighings of one against one. */
    private static final class Rank {
        final int[] lighter = new int[WALKERS];
        final int[] alike = new int[WALKERS];

        void find(Weighings weighings) {
            for (int p = 0; p < WALKERS; p++) {
                alike[p] = 1 << p;
                lighter[p] = 0;
            }
            for (int line = 0; line < weighings.lines; line++) {
                if (isOneEach(weighings, line) && weighings.outcome[line] == '=') {
                    join(alike, weighings.left[line], weighings.right[line]);
                    join(alike, weighings.right[line], weighings.left[line]);
                }
            }
            close(alike);
            for (int line = 0; line < weighings.lines; line++) {
                if (isOneEach(weighings, line) && weighings.outcome[line] != '=') {
                    boolean isLeftHeavy = weighings.outcome[line] == '>';
                    int heavy = isLeftHeavy ? weighings.left[line] : weighings.right[line];
                    int light = isLeftHeavy ? weighings.right[line] : weighings.left[line];
                    join(lighter, allAlike(heavy), allAlike(light));
                }
            }
            close(lighter);
        }

        boolean contradictsItself() {
            for (int p = 0; p < WALKERS; p++) {
                if (has(lighter[p], p)) {
                    return true;
                }
            }
            return false;
        }

        private static boolean isOneEach(Weighings weighings, int line) {
            return Integer.bitCount(weighings.left[line]) == 1 && Integer.bitCount(weighings.right[line]) == 1;
        }

        private int allAlike(int one) {
            for (int p = 0; p < WALKERS; p++) {
                if (one == 1 << p) {
                    return alike[p];
                }
            }
            return one;
        }

        private static void join(int[] related, int from, int to) {
            for (int p = 0; p < WALKERS; p++) {
                related[p] |= has(from, p) ? to : 0;
            }
        }

        /** Adds whom one reaches by others: after round k, by all of those up to k. */
        private static void close(int[] related) {
            for (int between = 0; between < WALKERS; between++) {
                for (int p = 0; p < WALKERS; p++) {
                    related[p] |= has(related[p], between) ? related[between] : 0;
                }
            }
        }
    }

    /**
     * The law as code for a stack: each rule has a stretch of steps for its E, if it has one, and one for its C.
     * It is asked of one walker at a time.
     */
    private static final class Law {
        static final int MOST_RULES = 16;
        static final int NUMBER = 0;
        static final int LETTER = 1;
        static final int WEIGHT = 1;
        // Six brackets with a term and a factor waiting in each stay far below it.
        static final int DEEPEST_STACK = 32;

        final int[] kind = new int[MOST_RULES];
        final int[] startOfE = new int[MOST_RULES];
        final int[] startOfC = new int[MOST_RULES];
        final int[] endOfC = new int[MOST_RULES];
        int rules = 0;
        // A byte of the text makes one step at most.
        private final int[] step = new int[LONGEST_LAW];
        private final int[] operand = new int[LONGEST_LAW];
        int length = 0;
        private final int[] facts = new int[8];
        private final int[] stack = new int[DEEPEST_STACK];

        void clear() {
            rules = 0;
            length = 0;
        }

        /** Where the step was put, for one whose operand is told later. */
        int put(int what, int itsOperand) {
            if (length < LONGEST_LAW) {
                step[length] = what;
                operand[length] = itsOperand;
                length++;
            }
            return length - 1;
        }

        void leadHere(int from) {
            if (isWithin(from, 0, length - 1)) {
                operand[from] = length;
            }
        }

        /** Of whom the law is asked from now on; the facts stand in the order of LawReader.LETTERS. */
        void look(Walk walk, int p) {
            facts[0] = p;
            facts[WEIGHT] = walk.weight[p];
            facts[2] = walk.claim[p];
            facts[3] = walk.over >> p & 1;
            facts[4] = Integer.bitCount(walk.over);
            facts[5] = walk.baths[p];
            facts[6] = walk.hurt[p];
            facts[7] = walk.hour % 100;
        }

        void setWeight(int weight) {
            facts[WEIGHT] = weight;
        }

        boolean anyHolds(int wanted) {
            return ruleThatHolds(wanted) != NONE;
        }

        /** What the first such rule that holds says, within 0 and most; NONE if none holds. */
        int say(int wanted, int most) {
            int rule = ruleThatHolds(wanted);
            if (rule == NONE) {
                return NONE;
            }
            return bounded(reckon(startOfE[rule], startOfC[rule]), 0, most);
        }

        private int ruleThatHolds(int wanted) {
            for (int rule = 0; rule < rules; rule++) {
                if (kind[rule] == wanted && reckon(startOfC[rule], endOfC[rule]) != 0) {
                    return rule;
                }
            }
            return NONE;
        }

        /** 0 for what is refused, since a C does not hold then and an E is 0. */
        private int reckon(int start, int end) {
            int top = NONE;
            for (int at = start; at < end; at++) {
                int what = step[at];
                int with = operand[at];
                if (what == NUMBER || what == LETTER) {
                    top++;
                    if (top >= DEEPEST_STACK) {
                        return 0;
                    }
                    stack[top] = what == NUMBER ? with : facts[with];
                } else if (top < 0) {
                    return 0;
                } else if (what == '!') {
                    stack[top] = 1 - stack[top];
                } else if (what == '&' || what == '|') {
                    // What is decided stays as it is, and what can't matter any more is not asked.
                    if ((stack[top] != 0) == (what == '|')) {
                        at = Math.max(at, with - 1);
                    } else {
                        top--;
                    }
                } else if (top < 1 || stack[top] == 0 && (what == '/' || what == '%')) {
                    return 0;
                } else {
                    top--;
                    stack[top] = joined(what, stack[top], stack[top + 1]);
                }
            }
            return top == 0 ? stack[0] : 0;
        }

        private static int joined(int what, int left, int right) {
            switch (what) {
                case '+': return left + right;
                case '-': return left - right;
                case '*': return left * right;
                case '/': return right == 0 ? 0 : left / right;
                case '%': return right == 0 ? 0 : left % right;
                case '<': return left < right ? 1 : 0;
                case '>': return left > right ? 1 : 0;
                default: return left == right ? 1 : 0;
            }
        }
    }

    /** Makes code of a law's text, from the left, so that the first fault met is the first there is. */
    private static final class LawReader {
        static final int DEEPEST = 6;
        static final String KINDS = "grfebwl";
        static final String LETTERS = "pvcondht";

        private final Cursor cursor;

        LawReader(Cursor cursor) {
            this.cursor = cursor;
        }

        void read(Law law) {
            law.clear();
            for (int rule = 0; rule <= Law.MOST_RULES && cursor.begins(rule); rule++) {
                readRule(law, rule);
            }
        }

        private void readRule(Law law, int rule) {
            int kind = cursor.sign;
            if (kind == NONE || KINDS.indexOf((char) kind) < 0) {
                cursor.failHere(Cursor.MISPLACED);
            } else if (rule >= Law.MOST_RULES) {
                cursor.failHere(Cursor.TOO_MANY_LINES);
            } else {
                cursor.next();
                law.kind[rule] = kind;
                law.startOfE[rule] = law.length;
                if (kind != 'g' && kind != 'r') {
                    readSum(law, 0);
                }
                law.startOfC[rule] = law.length;
                if (cursor.take('(')) {
                    readCondition(law, 1);
                    cursor.take(')');
                }
                law.endOfC[rule] = law.length;
                law.rules = rule + 1;
            }
        }

        /** Steps over a bracket or a ! that stands here, if as many may be open. */
        private boolean opens(int open) {
            if (open >= DEEPEST) {
                cursor.failHere(Cursor.TOO_DEEP);
                return false;
            }
            cursor.next();
            return true;
        }

        private void readCondition(Law law, int open) {
            readPart(law, open);
            for (int parts = 1; parts < LONGEST_LAW && cursor.sees('|'); parts++) {
                int jump = law.put('|', 0);
                cursor.next();
                readPart(law, open);
                law.leadHere(jump);
            }
        }

        private void readPart(Law law, int open) {
            readTest(law, open);
            for (int tests = 1; tests < LONGEST_LAW && cursor.sees('&'); tests++) {
                int jump = law.put('&', 0);
                cursor.next();
                readTest(law, open);
                law.leadHere(jump);
            }
        }

        private void readTest(Law law, int open) {
            if (cursor.sees('!')) {
                if (opens(open)) {
                    readTest(law, open + 1);
                    law.put('!', 0);
                }
            } else if (cursor.sees('(')) {
                if (opens(open)) {
                    readCondition(law, open + 1);
                    cursor.take(')');
                }
            } else {
                readSum(law, open);
                int comparison = cursor.sign;
                if (cursor.isFaulty() || !Weighings.isOutcome(comparison)) {
                    cursor.failHere(Cursor.MISPLACED);
                    return;
                }
                cursor.next();
                readSum(law, open);
                law.put(comparison, 0);
            }
        }

        private void readSum(Law law, int open) {
            readProduct(law, open);
            for (int terms = 1; terms < LONGEST_LAW && (cursor.sees('+') || cursor.sees('-')); terms++) {
                int sign = cursor.sign;
                cursor.next();
                readProduct(law, open);
                law.put(sign, 0);
            }
        }

        private void readProduct(Law law, int open) {
            readFactor(law, open);
            for (int factors = 1; factors < LONGEST_LAW && seesTimes(); factors++) {
                int sign = cursor.sign;
                cursor.next();
                readFactor(law, open);
                law.put(sign, 0);
            }
        }

        private boolean seesTimes() {
            return cursor.sees('*') || cursor.sees('/') || cursor.sees('%');
        }

        private void readFactor(Law law, int open) {
            int sign = cursor.sign;
            int letter = sign == NONE ? NONE : LETTERS.indexOf((char) sign);
            if (cursor.sees('[')) {
                if (opens(open)) {
                    readSum(law, open + 1);
                    cursor.take(']');
                }
            } else if (cursor.seesDigit()) {
                law.put(Law.NUMBER, cursor.readNumber(5));
            } else if (letter >= 0) {
                law.put(Law.LETTER, letter);
                cursor.next();
            } else {
                cursor.failHere(Cursor.MISPLACED);
            }
        }
    }

    /** The rope with its scale: lets hours go by, and tells what came to pass in them. */
    private static final class Rope {
        int tolerance = 0;
        int toe = 5;
        int gotOver = 0;
        int baths = 0;
        int flung = 0;
        int toes = 0;

        void pass(Walk walk, Law law, int hours) {
            gotOver = 0;
            baths = 0;
            flung = 0;
            toes = 0;
            int most = Math.min(hours, LAST_HOUR - walk.hour);
            for (int hour = 0; hour < most; hour++) {
                for (int p = 0; p < WALKERS; p++) {
                    if (has(walk.told, p)) {
                        visit(walk, law, p);
                    }
                }
                walk.hour++;
            }
        }

        private void visit(Walk walk, Law law, int p) {
            law.look(walk, p);
            int more = Math.max(0, law.say('w', 99));
            int less = Math.max(0, law.say('l', 99));
            walk.changeWeight(p, more - less);
            law.setWeight(walk.weight[p]);
            if (has(walk.over, p)) {
                if (law.anyHolds('r')) {
                    walk.over &= ~(1 << p);
                }
            } else if (law.anyHolds('g')) {
                cross(walk, p, onScale(walk, law, p));
            }
        }

        private int onScale(Walk walk, Law law, int p) {
            int stones = Math.max(0, law.say('e', 999));
            int friend = law.say('f', WALKERS - 1);
            boolean stands = isWalker(friend) && has(walk.othersHere(p), friend);
            boolean isToe = walk.draw() < law.say('b', 10);
            toes += isToe ? 1 : 0;
            return stones + (stands ? walk.weight[friend] : 0) + (isToe ? toe : 0);
        }

        private void cross(Walk walk, int p, int load) {
            int tooLight = load - walk.weight[p];
            if (-tooLight > tolerance) {
                walk.baths[p] = Math.min(MOST_BATHS, walk.baths[p] + 1);
                baths++;
                return;
            }
            if (tooLight > tolerance) {
                walk.hurt[p] = Math.min(MOST_HURT, walk.hurt[p] + tooLight);
                flung++;
            }
            walk.over |= 1 << p;
            gotOver++;
        }
    }

    /** Looks through all sets of walkers for the best ones. */
    private static final class Choices {
        static final int LARGEST_PARTY = 8;
        static final int HALF = 256;

        // The weights of all sets of the lower eight and of the upper eight: any set's weight is a sum of two.
        private final int[] lower = new int[HALF];
        private final int[] upper = new int[HALF];
        private final int[] row = new int[WALKERS];
        private final int[] member = new int[LARGEST_PARTY];
        private final int[] mostOver = new int[HALF];
        private final int[] goesAt = new int[LARGEST_PARTY];

        void weigh(int[] weights) {
            addUp(lower, weights, 0);
            addUp(upper, weights, 8);
        }

        private static void addUp(int[] sums, int[] weights, int from) {
            sums[0] = 0;
            for (int k = 0; k < 8; k++) {
                for (int set = 0; set < 1 << k; set++) {
                    sums[(1 << k) + set] = sums[set] + weights[from + k];
                }
            }
        }

        int sum(int bits) {
            return lower[bits & 255] + upper[bits >> 8 & 255];
        }

        /** The next greater set of those in the bits; behind the last comes the empty one. */
        private static int setAfter(int set, int bits) {
            return (set - bits) & bits;
        }

        int nearest(int bits, int weight) {
            int best = 0;
            int least = weight;
            int sets = 1 << Integer.bitCount(bits);
            int set = 0;
            for (int k = 0; k < sets; k++) {
                int off = Math.abs(sum(set) - weight);
                if (off < least || off == least && Integer.bitCount(set) < Integer.bitCount(best)) {
                    best = set;
                    least = off;
                }
                set = setAfter(set, bits);
            }
            return best;
        }

        int ways(int bits, int size, int weight, int tolerance) {
            int found = 0;
            int sets = 1 << Integer.bitCount(bits);
            int set = 0;
            for (int k = 0; k < sets; k++) {
                if (Math.abs(sum(set) - weight) <= tolerance && Integer.bitCount(set) == size) {
                    found++;
                }
                set = setAfter(set, bits);
            }
            return found;
        }

        /** By how much this team and the rest of all differ. */
        int unevenness(int team, int all) {
            return Math.abs(2 * sum(team) - sum(all));
        }

        int evenTeam(int all) {
            int lowest = all & -all;
            int others = all ^ lowest;
            int best = all;
            int least = sum(all);
            int sets = 1 << Integer.bitCount(others);
            int set = 0;
            for (int k = 0; k < sets; k++) {
                int uneven = unevenness(lowest | set, all);
                if (uneven < least) {
                    best = lowest | set;
                    least = uneven;
                }
                set = setAfter(set, others);
            }
            return best;
        }

        int mostTwos(Walk walk, int apart) {
            int size = sortWeights(walk);
            int twos = 0;
            int free = 0;
            for (int k = 1; k < size; k++) {
                // The lightest who is free has none nearer than the next one.
                if (k > free && row[k] - row[k - 1] <= apart) {
                    twos++;
                    free = k + 1;
                }
            }
            return twos;
        }

        private int sortWeights(Walk walk) {
            int size = 0;
            for (int p = 0; p < WALKERS; p++) {
                if (has(walk.told, p)) {
                    int place = size;
                    while (place > 0 && row[place - 1] > walk.weight[p]) {
                        row[place] = row[place - 1];
                        place--;
                    }
                    row[place] = walk.weight[p];
                    size++;
                }
            }
            return size;
        }

        /** Finds the order in which most of these get over: how many that are. */
        int lead(int walkers, int[] weights, int stone, int tolerance) {
            int size = gather(walkers, weights);
            addUp(lower, row, 0);
            int all = (1 << size) - 1;
            mostOver[0] = 0;
            for (int still = 1; still <= all; still++) {
                mostOver[still] = 0;
                for (int k = 0; k < size; k++) {
                    if (has(still, k) && canGo(still ^ 1 << k, row[k], stone, tolerance)) {
                        mostOver[still] = Math.max(mostOver[still], 1 + mostOver[still ^ 1 << k]);
                    }
                }
            }
            followLeast(all, size, stone, tolerance);
            return mostOver[all];
        }

        private int gather(int walkers, int[] weights) {
            Arrays.fill(row, 0);
            int size = 0;
            for (int p = 0; p < WALKERS && size < LARGEST_PARTY; p++) {
                if (has(walkers, p)) {
                    member[size] = p;
                    row[size] = weights[p];
                    size++;
                }
            }
            return size;
        }

        private boolean canGo(int others, int weight, int stone, int tolerance) {
            int sets = 1 << Integer.bitCount(others);
            int set = 0;
            for (int k = 0; k < sets; k++) {
                int lacking = weight - lower[set];
                if (Math.abs(lacking) <= tolerance || Math.abs(lacking - stone) <= tolerance) {
                    return true;
                }
                set = setAfter(set, others);
            }
            return false;
        }

        /** The lowest who loses nothing goes first, and so on. */
        private void followLeast(int all, int size, int stone, int tolerance) {
            int still = all;
            int places = mostOver[all];
            for (int place = 0; place < places; place++) {
                for (int k = 0; k < size; k++) {
                    int rest = still ^ 1 << k;
                    if (has(still, k) && mostOver[still] == 1 + mostOver[rest]
                            && canGo(rest, row[k], stone, tolerance)) {
                        goesAt[place] = member[k];
                        still = rest;
                        break;
                    }
                }
            }
        }

        int whoGoesAt(int place) {
            return isWithin(place, 0, LARGEST_PARTY - 1) ? goesAt[place] : NONE;
        }
    }

    /** Weights from the tape: as stones on pans, on a seesaw, or in a row. */
    private static final class Pans {
        static final int MOST_STONES = 8;
        static final int HEAVIEST_SUM = 2040;
        static final int SEESAW_PLACES = 5;
        static final int HEAVIEST_TURN = 255 * SEESAW_PLACES * SEESAW_PLACES;
        static final int LONGEST_ROW = 16;

        private final int[] weight = new int[LONGEST_ROW];
        private final int[] rising = new int[LONGEST_ROW];
        // A bit for each weight up to the heaviest sum.
        private final long[] weighed = new long[HEAVIEST_SUM / 64 + 1];
        private int size = 0;
        private int best = 0;

        void take(Tape tape, int n) {
            size = Math.min(n, LONGEST_ROW);
            for (int k = 0; k < size; k++) {
                weight[k] = tape.at(k);
            }
            tape.clear();
        }

        boolean hasZero() {
            for (int k = 0; k < size; k++) {
                if (weight[k] == 0) {
                    return true;
                }
            }
            return false;
        }

        int weighsUpTo(boolean both) {
            Arrays.fill(weighed, 0L);
            markFrom(0, 0, both);
            int upTo = 0;
            while (upTo < HEAVIEST_SUM && (weighed[(upTo + 1) / 64] >> (upTo + 1) % 64 & 1L) != 0L) {
                upTo++;
            }
            return upTo;
        }

        private void markFrom(int k, int sum, boolean both) {
            if (k >= size || k >= MOST_STONES) {
                int of = Math.min(Math.abs(sum), HEAVIEST_SUM);
                weighed[of / 64] |= 1L << of % 64;
                return;
            }
            markFrom(k + 1, sum, both);
            markFrom(k + 1, sum + weight[k], both);
            if (both) {
                markFrom(k + 1, sum - weight[k], both);
            }
        }

        /** How many stones at least, or NONE. */
        int fewestFor(int thing) {
            best = MOST_STONES + 1;
            tryStones(0, thing, 0);
            return best > MOST_STONES ? NONE : best;
        }

        private void tryStones(int k, int lacking, int used) {
            if (lacking == 0) {
                best = Math.min(best, used);
            }
            if (k >= size || k >= MOST_STONES || used >= best) {
                return;
            }
            tryStones(k + 1, lacking, used);
            tryStones(k + 1, lacking - weight[k], used + 1);
            tryStones(k + 1, lacking + weight[k], used + 1);
        }

        int evenAtBest() {
            best = HEAVIEST_TURN;
            seat(0, 0, 0);
            return best;
        }

        /** The taken places are bits: of the left side those from 0 on, of the right side those behind them. */
        private void seat(int k, int taken, int turning) {
            if (k >= size || k >= SEESAW_PLACES) {
                best = Math.min(best, Math.abs(turning));
                return;
            }
            for (int place = 0; place < 2 * SEESAW_PLACES && best > 0; place++) {
                if (!has(taken, place)) {
                    int far = place % SEESAW_PLACES + 1;
                    int turn = place < SEESAW_PLACES ? far * weight[k] : -far * weight[k];
                    seat(k + 1, taken | 1 << place, turning + turn);
                }
            }
        }

        /** The most of the row who rise, each behind the one ahead of him at once or (not side by side) at any time. */
        int mostThatRise(boolean sideBySide) {
            int most = 0;
            for (int k = 0; k < size; k++) {
                rising[k] = 1;
                for (int ahead = sideBySide ? Math.max(0, k - 1) : 0; ahead < k; ahead++) {
                    if (weight[ahead] <= weight[k]) {
                        rising[k] = Math.max(rising[k], rising[ahead] + 1);
                    }
                }
                most = Math.max(most, rising[k]);
            }
            return most;
        }

        int timesLeftHeavier(int sides) {
            int left = 0;
            int times = 0;
            for (int k = 0; k < size; k++) {
                left += has(sides, k) ? weight[k] : -weight[k];
                times += left > 0 ? 1 : 0;
            }
            return times;
        }

        int mostLeftHeavier(int sides) {
            int left = 0;
            int most = 0;
            for (int k = 0; k < size; k++) {
                left += has(sides, k) ? weight[k] : -weight[k];
                most = Math.max(most, left);
            }
            return most;
        }
    }
}
