import java.util.function.Supplier;

/** The bounds of each argument, promise by promise: the last that is taken on either side, the first that is not. */
public final class BoundTest {
    private static final int NONE = RopeScale.NONE;
    private static final String LINES_120 = "abcdefgh=ijklmnop;abcdefgh=ijklmnop;abcdefgh=ijklmnop;abcdefgh=ijklmnop;"
        + "abcdefgh=ijklmnop;abcdefgh=ijklmnop;abcdef=ghijk";

    private interface Call {
        int of(RopeScale x, int argument);
    }

    public static void main(String[] args) {
        walkerAndRules();
        texts();
        hours();
        tried();
        walkers();
        party();
        partyOfBits();
        weighings();
        sums();
        stones();
        rows();
        falseOne();
        scales();
        rest();
        Due.end();
    }

    private static int bit(boolean answer) {
        return answer ? 1 : 0;
    }

    /** The least and the most are taken, with these answers; one less, one more and the ends of int are not. */
    private static void bounds(String name, int[] range, int refusal, int[] due, Supplier<RopeScale> made, Call call) {
        Due.is(name + " " + range[0], call.of(made.get(), range[0]), due[0]);
        Due.is(name + " " + range[1], call.of(made.get(), range[1]), due[1]);
        int[] beyond = {range[0] - 1, range[1] + 1, Integer.MIN_VALUE, Integer.MAX_VALUE};
        for (int one : beyond) {
            Due.is(name + " " + one + " is not taken", call.of(made.get(), one), refusal);
        }
    }

    private static int[] two(int first, int second) {
        return new int[] {first, second};
    }

    /** Sixteen walkers, of 10, 20 .. 160. */
    private static RopeScale sixteen() {
        RopeScale x = new RopeScale();
        for (int p = 0; p < 16; p++) {
            x.walker(p, 10 + 10 * p);
        }
        return x;
    }

    /** A tape that is full (260), with 1, 2, 3 .. on it. */
    private static RopeScale fullTape() {
        RopeScale x = new RopeScale();
        int[] bytes = new int[260];
        for (int k = 0; k < 260; k++) {
            bytes[k] = k % 255 + 1;
        }
        Due.feed(x, bytes);
        return x;
    }

    /** A tape that is full, with this text first. */
    private static RopeScale fullTape(String text) {
        RopeScale x = sixteen();
        Due.feed(x, text + " ".repeat(260 - text.length()));
        return x;
    }

    private static void walkerAndRules() {
        bounds("walker p", two(0, 15), 0, two(1, 1), RopeScale::new, (x, p) -> bit(x.walker(p, 5)));
        bounds("walker weight", two(1, 999), 0, two(1, 1), RopeScale::new, (x, w) -> bit(x.walker(5, w)));
        bounds("tolerance", two(0, 99), 0, two(1, 1), RopeScale::new, (x, t) -> bit(x.rules(t, 5)));
        bounds("toe", two(0, 99), 0, two(1, 1), RopeScale::new, (x, t) -> bit(x.rules(5, t)));
    }

    private static void texts() {
        StringBuilder law = new StringBuilder("e1");
        while (law.length() < 233) {
            law.append("+1");
        }
        law.append("(1=1)");
        Due.is("one short of 240", law.length(), 239);
        law.insert(1, '1');
        bounds("law n", two(1, 240), NONE, two(-1001, 1), () -> fullTape(law.toString()), (x, n) -> x.law(n));
        // Twenty lines of five bytes have 119: of 120 bytes the last one is a fault.
        String orders = Due.times(20, "p=123") + ";";
        bounds("orders n", two(1, 120), NONE, two(-1001, -1120), () -> fullTape(orders), (x, n) -> x.orders(n));
        Due.is("119 bytes of orders", fullTape(orders).orders(119), 20);
        Due.is("120 bytes", LINES_120.length(), 120);
        bounds("weighings n", two(1, 120), NONE, two(-1001, 7), () -> fullTape(LINES_120), (x, n) -> x.weighings(n));
        String twenty = "g(1=1);r(1=1);e1(1=1";
        for (int k = 0; k < 3; k++) {
            int kind = k;
            Supplier<RopeScale> made = () -> {
                RopeScale x = sixteen();
                Due.feed(x, kind == 0 ? twenty : kind == 1 ? "a=1;a=1;a=1;a=1;a=12" : "a=b;a=b;a=b;a=b;a=bc");
                return x;
            };
            Call call = (x, n) -> kind == 0 ? x.law(n) : kind == 1 ? x.orders(n) : x.weighings(n);
            Due.is("all that the tape has, " + k, call.of(made.get(), 20), kind == 0 ? -1020 : 5);
            Due.is("one more than it has, " + k, call.of(made.get(), 21), NONE);
            Due.is("of an empty tape, " + k, call.of(sixteen(), 1), NONE);
        }
    }

    private static RopeScale growing() {
        RopeScale x = sixteen();
        Due.law(x, "w1(1=1);g(p=0);r(1=1);e999(1=1)");
        return x;
    }

    private static void hours() {
        bounds("hours n", two(1, 240), NONE, two(1, 120), BoundTest::growing, (x, n) -> x.hours(n));
        bounds("hours n, the hour", two(1, 240), 0, two(1, 240), BoundTest::growing, (x, n) -> {
            x.hours(n);
            return x.count(0);
        });
    }

    private static void tried() {
        bounds("tried n", two(1, 240), NONE, two(11, 250), BoundTest::growing, (x, n) -> x.tried(n, 100));
        bounds("tried what", two(0, 4), NONE, two(1, 0), BoundTest::growing, (x, what) -> x.tried(1, what));
        bounds("tried weight", two(100, 115), NONE, two(11, 161), BoundTest::growing, (x, what) -> x.tried(1, what));
        bounds("tried hurt", two(200, 215), NONE, two(988, 0), BoundTest::growing, (x, what) -> x.tried(1, what));
        int[] due = {1, 0, 1, 1, 0};
        for (int what = 0; what < 5; what++) {
            Due.is("tried what " + what, growing().tried(1, what), due[what]);
        }
        int taken = 0;
        RopeScale x = growing();
        for (int what = -20; what < 320; what++) {
            taken += x.tried(1, what) == NONE ? 0 : 1;
        }
        Due.is("no other what", taken, 5 + 16 + 16);
    }

    private static void walkers() {
        bounds("walkerIs p", two(0, 15), NONE, two(10, 160), BoundTest::sixteen, (x, p) -> x.walkerIs(p, 0));
        bounds("walkerIs what", two(0, 4), NONE, two(40, 0), BoundTest::sixteen, (x, what) -> x.walkerIs(3, what));
        bounds("standsFor p", two(0, 15), NONE, two(0, 1 << 6 | 1 << 8), BoundTest::sixteen,
            (x, p) -> x.standsFor(p, 0));
        bounds("standsFor what", two(0, 1), NONE, two(3, 0), BoundTest::sixteen, (x, what) -> x.standsFor(2, what));
        bounds("colonel p", two(0, 15), NONE, two(0, 7), BoundTest::sixteen, (x, p) -> x.colonel(p, 2));
        bounds("colonel k", two(1, 15), NONE, two(0, 0), BoundTest::sixteen, (x, k) -> x.colonel(15, k));
        Supplier<RopeScale> boys = () -> Due.walkers(15, 1, 1, 1, 1, 1, 1, 1, 1, 1, 1, 1, 1, 1, 1, 1);
        bounds("colonel k of boys", two(1, 15), NONE, two(0, 1), boys, (x, k) -> x.colonel(0, k));
    }

    private static RopeScale alike() {
        return Due.walkers(5, 5, 5, 5, 5, 5, 5, 5, 5, 5, 5, 5, 5, 5, 5, 5);
    }

    private static void party() {
        bounds("party stone", two(0, 999), NONE, two(7, 7), BoundTest::alike, (x, stone) -> x.party(255, stone, 100));
        bounds("party what", two(0, 7), NONE, two(0, 7), BoundTest::alike, (x, what) -> x.party(255, 5, what));
        bounds("party what 100", two(100, 100), NONE, two(8, 8), BoundTest::alike, (x, what) -> x.party(255, 5, what));
        RopeScale heavy = Due.walkers(999, 998);
        Due.is("the heaviest stone", heavy.party(3, 999, 100) * 10 + heavy.party(3, 999, 0), 10);
        Due.is("a stone of 0 is none", heavy.party(3, 0, 100), 0);
        Due.is("no place behind the last who goes", alike().party(255, 0, 6) * 10 + alike().party(255, 0, 7), 56);
        Due.is("no first place if none goes", heavy.party(3, 0, 0), -4);
        bounds("party what of one who is not told", two(0, 7), NONE, two(-2, -2), RopeScale::new,
            (x, what) -> x.party(1, 5, what));
        bounds("party stone of one who is not told", two(0, 999), NONE, two(-2, -2), RopeScale::new,
            (x, stone) -> x.party(1, stone, 0));
    }

    private static void partyOfBits() {
        int[] taken = {1, 1 << 15, 0xFF, 0xFF00, 0x5555, 0xAAAA};
        for (int walkers : taken) {
            Due.is("party of " + walkers, alike().party(walkers, 5, 100), Integer.bitCount(walkers));
        }
        int[] beyond = {0, 0x1FF, 0xFF80, 0xFFFF, 1 << 16, 1 << 16 | 1, 1 << 30, 1 << 31, 1 << 31 | 1, -1, -2};
        for (int walkers : beyond) {
            Due.is("party of " + walkers + " is not taken", alike().party(walkers, 5, 100), NONE);
        }
    }

    private static RopeScale weighed() {
        RopeScale x = sixteen();
        Due.weighings(x, "a<b;p>c;p=o;e=f");
        Due.orders(x, "a?30;o?160");
        return x;
    }

    private static void weighings() {
        bounds("areTrue what", two(0, 3), NONE, two(2, 0), BoundTest::weighed, (x, what) -> x.areTrue(what));
        Due.is("areTrue 1, 2", weighed().areTrue(1) * 10 + weighed().areTrue(2), 22);
        RopeScale alone = new RopeScale();
        Due.weighings(alone, "a<b");
        bounds("odd what", two(0, 2), NONE, two(2, 0), () -> alone, (x, what) -> x.odd(what));
        Due.is("odd 1", alone.odd(1), 1);
        bounds("heavier p", two(0, 15), NONE, two(0, 4), BoundTest::weighed, (x, p) -> x.heavier(p, 0));
        bounds("heavier what", two(0, 1), NONE, two(4, 0xC000), BoundTest::weighed, (x, what) -> x.heavier(14, what));
        RopeScale wrong = new RopeScale();
        Due.weighings(wrong, "a<b;b<a");
        bounds("heavier p, in contradiction", two(0, 15), NONE, two(-3, -3), () -> wrong, (x, p) -> x.heavier(p, 0));
        bounds("heavier what, in contradiction", two(0, 1), NONE, two(-3, -3), () -> wrong,
            (x, what) -> x.heavier(7, what));
    }

    private static void sums() {
        Supplier<RopeScale> farOff = () -> Due.walkers(1, 999, 1);
        bounds("pairs apart", two(0, 999), NONE, two(1, 1), farOff, (x, apart) -> x.pairs(apart));
        Due.is("997 apart", Due.walkers(1, 999).pairs(997) * 10 + Due.walkers(1, 999).pairs(998), 1);
        Supplier<RopeScale> liars = () -> {
            RopeScale x = sixteen();
            Due.orders(x, "p?999;a?1;b=999;b?1");
            return x;
        };
        bounds("liars what", two(0, 2), NONE, two(0x8003, 1), liars, (x, what) -> x.liars(what));
        Due.is("the greatest lie there can be", liars.get().liars(1), 998);
        bounds("teams what", two(0, 1), NONE, two(0, 0x0DFF), BoundTest::sixteen, (x, what) -> x.teams(what));
        bounds("toll", two(0, 99999), NONE, two(0, 99999), () -> Due.walkers(7), (x, toll) -> x.share(toll, 0));
        bounds("share p", two(0, 15), NONE, two(10, 160), BoundTest::sixteen, (x, p) -> x.share(1360, p));
    }

    private static void stones() {
        bounds("stones n, one pan", two(1, 8), NONE, two(1, 36), BoundTest::fullTape, (x, n) -> x.stones(n, false));
        bounds("stones n, both pans", two(1, 8), NONE, two(1, 36), BoundTest::fullTape, (x, n) -> x.stones(n, true));
        bounds("fewest n", two(1, 8), NONE, two(1, 1), BoundTest::fullTape, (x, n) -> x.fewest(n, 1));
        bounds("fewest weight", two(1, 2040), NONE, two(1, -2), BoundTest::fullTape,
            (x, weight) -> x.fewest(8, weight));
        Supplier<RopeScale> heaviest = () -> {
            RopeScale x = new RopeScale();
            Due.feed(x, 255, 255, 255, 255, 255, 255, 255, 255);
            return x;
        };
        bounds("fewest weight", two(1, 2040), NONE, two(-2, 8), heaviest, (x, weight) -> x.fewest(8, weight));
        bounds("seesaw n", two(1, 5), NONE, two(1, 0), BoundTest::fullTape, (x, n) -> x.seesaw(n));
        Call[] calls = {(x, n) -> x.stones(n, false), (x, n) -> x.stones(n, true),
            (x, n) -> x.fewest(n, 1), (x, n) -> x.seesaw(n)};
        for (int k = 0; k < calls.length; k++) {
            int refusal = k == 2 ? -3 : -2;
            RopeScale x = new RopeScale();
            Due.is("of an empty tape, " + k, calls[k].of(x, 1), NONE);
            Due.feed(x, 1, 2, 3, 4, 0);
            Due.is("a weight of 0 beyond n does not count, " + k, calls[k].of(x, 4) == refusal, false);
            Due.feed(x, 1, 2, 3, 4, 0);
            Due.is("the last weight is 0, " + k, calls[k].of(x, 5), refusal);
            Due.feed(x, 0, 1, 2, 3, 4);
            Due.is("the first weight is 0, " + k, calls[k].of(x, 1), refusal);
        }
    }

    private static void rows() {
        bounds("row n, who must go", two(1, 16), NONE, two(0, 0), BoundTest::fullTape, (x, n) -> x.row(n, 0));
        bounds("row n, side by side", two(1, 16), NONE, two(1, 16), BoundTest::fullTape, (x, n) -> x.row(n, 1));
        bounds("row what", two(0, 1), NONE, two(0, 16), BoundTest::fullTape, (x, what) -> x.row(16, what));
        Due.is("of an empty tape", new RopeScale().row(1, 0), NONE);
        RopeScale x = new RopeScale();
        Due.feed(x, 255, 0, 255, 0, 0, 255);
        Due.is("weights of 0 and of 255", x.row(6, 0), 2);
    }

    private static void falseOne() {
        bounds("false n, heavy", two(1, 9999), NONE, two(0, 9), RopeScale::new, (x, n) -> x.falseOne(n, true));
        bounds("false n, either", two(1, 9999), NONE, two(-2, 10), RopeScale::new, (x, n) -> x.falseOne(n, false));
        RopeScale x = new RopeScale();
        int power = 3;
        for (int w = 1; w <= 8; w++) {
            Due.is("3 to the " + w + ", heavy", x.falseOne(power, true), w);
            Due.is("one more", x.falseOne(power + 1, true), w + 1);
            if (w > 1) {
                Due.is("3 to the " + w + ", less 3, halved", x.falseOne((power - 3) / 2, false), w);
                Due.is("one more of them", x.falseOne((power - 3) / 2 + 1, false), w + 1);
            }
            power *= 3;
        }
        Due.is("two, either", x.falseOne(2, false), -2);
        Due.is("9840, either", x.falseOne(9840, false), 9);
        Due.is("9841, either", x.falseOne(9841, false), 10);
    }

    private static void scales() {
        bounds("scales n", two(1, 10), NONE, two(1, 10), BoundTest::fullTape, (x, n) -> x.scales(n, 1023, 0));
        bounds("scales sides", two(0, 1023), NONE, two(0, 55), BoundTest::fullTape,
            (x, sides) -> x.scales(10, sides, 1));
        bounds("scales what", two(0, 1), NONE, two(1, 1), BoundTest::fullTape, (x, what) -> x.scales(10, 1, what));
        Due.is("of an empty tape", new RopeScale().scales(1, 1, 0), NONE);
        Due.is("the last weight on the left", fullTape().scales(10, 512, 1), 0);
        Due.is("sides beyond n", fullTape().scales(1, 1022, 1) * 10 + fullTape().scales(1, 1023, 1), 1);
    }

    private static void rest() {
        bounds("seed", two(0, 65535), 0, two(1, 1), RopeScale::new, (x, seed) -> bit(x.seed(seed)));
        bounds("check n", two(0, 16), -2, two(-1, 0), BoundTest::fullTape, (x, n) -> x.check(n));
        Due.is("check 0 of an empty tape", new RopeScale().check(0), NONE);
        Due.is("check 1 of an empty tape", new RopeScale().check(1), -2);
        Supplier<RopeScale> all = () -> {
            RopeScale x = sixteen();
            Due.feed(x, 10, 20, 30, 40, 50, 60, 70, 80, 90, 100, 110, 120, 130, 140, 150, 160);
            return x;
        };
        bounds("check n, right", two(0, 16), -2, two(NONE, NONE), all, (x, n) -> x.check(n));
        bounds("count what", two(0, 11), NONE, two(0, 1360), BoundTest::sixteen, (x, what) -> x.count(what));
    }
}
