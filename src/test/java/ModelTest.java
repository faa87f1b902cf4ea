import java.util.Random;

/** Runs of drawn calls, the same each time, whose answers are those of the model. */
public final class ModelTest {
    private static final int OBJECTS = 500;
    private static final int CALLS = 500;

    private final Random random;
    private final String name;
    private RopeScale real;
    private Model model;
    private int calls = 0;

    private ModelTest(int seed) {
        random = new Random(seed);
        name = "run " + seed;
    }

    public static void main(String[] args) {
        int first = args.length > 0 ? Integer.parseInt(args[0]) : 1;
        int objects = args.length > 1 ? Integer.parseInt(args[1]) : OBJECTS;
        for (int seed = first; seed < first + objects; seed++) {
            new ModelTest(seed).run();
        }
        Due.end();
    }

    private void run() {
        real = new RopeScale();
        model = new Model();
        int people = random.nextInt(17);
        for (int p = 0; p < people; p++) {
            walker(random.nextInt(16), weight());
        }
        while (calls < CALLS) {
            call();
        }
    }

    private void due(String call, long got, long want) {
        calls++;
        Due.is(name + ", call " + calls + ": " + call, got, want);
    }

    private void due(String call, boolean got, boolean want) {
        due(call, got ? 1 : 0, want ? 1 : 0);
    }

    private int upTo(int n) {
        return random.nextInt(n);
    }

    /** Mostly within the bounds, at times just beside them or far off. */
    private int around(int least, int most) {
        int how = upTo(40);
        switch (how) {
            case 0: return least - 1;
            case 1: return most + 1;
            case 2: return upTo(2) == 0 ? random.nextInt() : upTo(2) == 0 ? Integer.MIN_VALUE : Integer.MAX_VALUE;
            case 3: case 4: return least;
            case 5: case 6: return most;
            default: return least + upTo(most - least + 1);
        }
    }

    private int weight() {
        return upTo(3) > 0 ? 1 + upTo(20) : 1 + upTo(999);
    }

    private void walker(int p, int weight) {
        due("walker(" + p + ", " + weight + ")", real.walker(p, weight), model.walker(p, weight));
    }

    private void call() {
        int how = upTo(100);
        if (how < 6) {
            walker(around(0, 15), upTo(20) == 0 ? around(1, 999) : weight());
        } else if (how < 33) {
            textCall();
        } else if (how < 41) {
            bytesCall();
        } else if (how < 60) {
            hourCall();
        } else if (how < 90) {
            questionCall();
        } else {
            lookAround();
        }
    }

    // ---- texts

    private void feed(String text) {
        for (int from = 0; from < text.length(); from += 20) {
            int[] five = new int[5];
            for (int k = 0; k < 20; k++) {
                int one = from + k < text.length() ? text.charAt(from + k) : upTo(256);
                five[k / 4] = five[k / 4] << 8 | one;
            }
            due("feed", real.feed(five[0], five[1], five[2], five[3], five[4]), model.feed(five));
        }
    }

    private String pick(String signs) {
        return String.valueOf(signs.charAt(upTo(signs.length())));
    }

    private String number(int digits) {
        StringBuilder text = new StringBuilder();
        int length = 1 + upTo(upTo(30) == 0 ? digits + 2 : digits);
        for (int k = 0; k < length; k++) {
            text.append(pick(upTo(4) == 0 ? "0" : "0123456789"));
        }
        return text.toString();
    }

    private String factor(int depth) {
        int how = upTo(10);
        if (how < 1 && depth > 0) {
            return "[" + e(depth - 1) + "]";
        }
        return how < 5 ? number(upTo(3) == 0 ? 5 : 2) : pick("pvcondht");
    }

    private String e(int depth) {
        StringBuilder text = new StringBuilder(factor(depth));
        while (upTo(3) == 0) {
            text.append(pick("+-*/%")).append(factor(depth));
        }
        return text.toString();
    }

    private String c(int depth) {
        StringBuilder text = new StringBuilder(test(depth));
        while (upTo(3) == 0) {
            text.append(pick("&|")).append(test(depth));
        }
        return text.toString();
    }

    private String test(int depth) {
        int how = upTo(12);
        if (how < 2 && depth > 0) {
            return "!" + test(depth - 1);
        }
        if (how < 4 && depth > 0) {
            return "(" + c(depth - 1) + ")";
        }
        return how < 6 ? "1=1" : e(depth) + pick("<>=") + e(depth);
    }

    private String law() {
        StringBuilder text = new StringBuilder();
        int rules = upTo(25) == 0 ? 16 + upTo(2) : 1 + upTo(9);
        for (int k = 0; k < rules; k++) {
            String kind = pick("ggrffeebwl");
            boolean hasE = !kind.equals("g") && !kind.equals("r");
            text.append(k == 0 ? "" : ";").append(kind).append(hasE ? e(upTo(7)) : "");
            text.append("(").append(rules > 12 ? "1=1" : c(upTo(7))).append(")");
        }
        return text.toString();
    }

    private String orders() {
        StringBuilder text = new StringBuilder();
        int lines = upTo(12) == 0 ? 19 + upTo(4) : 1 + upTo(5);
        for (int k = 0; k < lines; k++) {
            String deed = pick("=?+-<>");
            int told = model.count(1);
            char who = (char) ('a' + upTo(16));
            for (int tries = 0; tries < 40 && told != 0 && (told >> who - 'a' & 1) == 0 && upTo(40) > 0; tries++) {
                who = (char) ('a' + upTo(16));
            }
            text.append(k == 0 ? "" : ";").append(who).append(deed);
            text.append(deed.equals("<") || deed.equals(">") ? "" : number(lines > 10 ? 1 : 3));
        }
        return text.toString();
    }

    private String weighings() {
        StringBuilder text = new StringBuilder();
        int lines = upTo(12) == 0 ? 15 + upTo(4) : 1 + upTo(5);
        String letters = upTo(2) == 0 ? "abcde" : "abcdefghijklmnop";
        boolean isFair = upTo(2) == 0;
        for (int k = 0; k < lines; k++) {
            StringBuilder left = new StringBuilder(letters);
            int size = lines > 10 || upTo(2) == 0 ? 1 : 1 + upTo(letters.length() / 2);
            text.append(k == 0 ? "" : ";");
            take(text, left, size);
            text.append(pick("<>=="));
            take(text, left, isFair || size == 1 && upTo(5) > 0 ? size : 1 + upTo(letters.length() / 2));
            if (upTo(60) == 0) {
                text.append(pick(letters));
            }
        }
        return text.toString();
    }

    private void take(StringBuilder to, StringBuilder from, int size) {
        for (int k = 0; k < size; k++) {
            int at = upTo(from.length());
            to.append(from.charAt(at));
            from.deleteCharAt(at);
        }
    }

    private String spoilt(String text) {
        StringBuilder spoilt = new StringBuilder(text);
        int times = upTo(3) == 0 ? 1 + upTo(2) : 0;
        for (int k = 0; k < times && spoilt.length() > 1; k++) {
            int at = upTo(spoilt.length());
            switch (upTo(5)) {
                case 0: spoilt.deleteCharAt(at); break;
                case 1: spoilt.insert(at, pick("agp1=<>;()[]!&|+-*/%x?0")); break;
                case 2: spoilt.setCharAt(at, pick("agp1=<>;()[]!&|+-*/%x?0").charAt(0)); break;
                case 3: spoilt.setLength(at + 1); break;
                default: spoilt.setCharAt(at, (char) upTo(256)); break;
            }
        }
        return spoilt.toString();
    }

    private int length(String text, int most) {
        return upTo(30) == 0 ? around(1, most) : text.length();
    }

    private void textCall() {
        int how = upTo(9);
        if (how < 4) {
            String text = spoilt(law());
            feed(text);
            int n = length(text, 240);
            due("law(" + n + ") of " + text, real.law(n), model.law(n));
        } else if (how < 7) {
            String text = spoilt(orders());
            feed(text);
            int n = length(text, 120);
            due("orders(" + n + ") of " + text, real.orders(n), model.orders(n));
        } else {
            String text = spoilt(weighings());
            feed(text);
            int n = length(text, 120);
            due("weighings(" + n + ") of " + text, real.weighings(n), model.weighings(n));
        }
    }

    private void bytesCall() {
        StringBuilder bytes = new StringBuilder();
        for (int k = upTo(20); k >= 0; k--) {
            bytes.append((char) (upTo(30) == 0 ? 0 : upTo(2) == 0 ? 1 + upTo(9) : 1 + upTo(255)));
        }
        if (upTo(12) > 0) {
            feed(bytes.toString());
        }
        boolean flag = upTo(2) == 0;
        int n = around(1, 8);
        int what = around(0, 1);
        switch (upTo(7)) {
            case 0: due("stones", real.stones(n, flag), model.stones(n, flag)); break;
            case 1:
                int weight = flag ? around(1, 2040) : 1 + upTo(40);
                due("fewest", real.fewest(n, weight), model.fewest(n, weight));
                break;
            case 2:
                n = around(1, 5);
                due("seesaw", real.seesaw(n), model.seesaw(n));
                break;
            case 3:
                n = flag ? around(1, 16) : around(1, 10);
                due("row", real.row(n, what), model.row(n, what));
                break;
            case 4:
                n = around(1, 10);
                int sides = around(0, 1023);
                due("scales", real.scales(n, sides, what), model.scales(n, sides, what));
                break;
            case 5:
                n = around(1, 9999);
                due("falseOne", real.falseOne(n, flag), model.falseOne(n, flag));
                break;
            default: checkCall(); break;
        }
    }

    private void checkCall() {
        StringBuilder bytes = new StringBuilder();
        for (int p = 0; p < 16; p++) {
            bytes.append((char) (upTo(30) == 0 ? upTo(256) : Math.max(0, model.walkerIs(p, 0)) % 256));
        }
        due("count(5)", real.count(5), model.count(5));
        if (model.count(5) > 0) {
            due("check(0)", real.check(0), model.check(0));
        }
        feed(bytes.toString());
        int n = around(0, 16);
        due("check(" + n + ")", real.check(n), model.check(n));
    }

    // ---- hours and questions

    private void hourCall() {
        int n = upTo(10) == 0 ? around(1, 240) : 1 + upTo(5);
        int[] kinds = {around(0, 4), around(100, 115), around(200, 215)};
        int what = kinds[upTo(3)];
        int x = around(0, 65535);
        switch (upTo(12)) {
            case 0: due("seed(" + x + ")", real.seed(x), model.seed(x)); break;
            case 1: due("keep()", real.keep(), model.keep()); break;
            case 2: due("undo()", real.undo(), model.undo()); break;
            case 3:
                int tolerance = upTo(3) > 0 ? upTo(6) : around(0, 99);
                int toe = around(0, 99);
                due("rules(" + tolerance + ", " + toe + ")", real.rules(tolerance, toe), model.rules(tolerance, toe));
                break;
            case 4: case 5: case 6: case 7:
                due("tried(" + n + ", " + what + ")", real.tried(n, what), model.tried(n, what));
                break;
            default: due("hours(" + n + ")", real.hours(n), model.hours(n)); break;
        }
    }

    private void questionCall() {
        int p = around(0, 15);
        int two = around(0, 1);
        int three = around(0, 2);
        switch (upTo(9)) {
            case 0: due("standsFor(" + p + ", " + two + ")", real.standsFor(p, two), model.standsFor(p, two)); break;
            case 1:
                int k = around(1, 15);
                due("colonel(" + p + ", " + k + ")", real.colonel(p, k), model.colonel(p, k));
                break;
            case 2: partyCall(); break;
            case 3:
                int four = around(0, 3);
                due("areTrue(" + four + ")", real.areTrue(four), model.areTrue(four));
                break;
            case 4: due("odd(" + three + ")", real.odd(three), model.odd(three)); break;
            case 5: due("heavier(" + p + ", " + two + ")", real.heavier(p, two), model.heavier(p, two)); break;
            case 6:
                int apart = upTo(3) > 0 ? upTo(5) : around(0, 999);
                due("pairs(" + apart + ")", real.pairs(apart), model.pairs(apart));
                break;
            case 7:
                due("liars(" + three + ")", real.liars(three), model.liars(three));
                due("teams(" + two + ")", real.teams(two), model.teams(two));
                break;
            default:
                int toll = around(0, 99999);
                due("share(" + toll + ", " + p + ")", real.share(toll, p), model.share(toll, p));
                break;
        }
    }

    private void partyCall() {
        int here = model.count(1) & ~model.count(2);
        int walkers = here & random.nextInt(65536);
        for (int p = 0; p < 16 && Integer.bitCount(walkers) > (upTo(40) == 0 ? 9 : 5); p++) {
            walkers &= ~(1 << p);
        }
        walkers = upTo(20) == 0 ? random.nextInt(1 << 17) : walkers;
        int stone = upTo(3) > 0 ? upTo(20) : around(0, 999);
        int what = upTo(2) == 0 ? 100 : around(0, 7);
        due("party(" + walkers + ", " + stone + ", " + what + ")",
            real.party(walkers, stone, what), model.party(walkers, stone, what));
    }

    private void lookAround() {
        for (int what = -1; what <= 12; what++) {
            due("count(" + what + ")", real.count(what), model.count(what));
        }
        int p = around(0, 15);
        for (int what = -1; what <= 5; what++) {
            due("walkerIs(" + p + ", " + what + ")", real.walkerIs(p, what), model.walkerIs(p, what));
        }
    }
}
