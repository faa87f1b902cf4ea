/**
 * The edges that the document names, in its order: the tape empty and full, no walkers and all sixteen, the last hour,
 * the most of WEIGHT, BATHS and HURT, draws that wrap around, what is reckoned with 32 bits.
 */
public final class EdgeTest {
    private static final String LEAST = "[32768*65536]";
    private static final String MOST = "[32768*65536-1]";

    public static void main(String[] args) {
        theTape();
        ownMemory();
        noWalkers();
        nobodyIsKept();
        allSixteen();
        sixteenGo();
        weightByOrders();
        claimByOrders();
        weightByLaw();
        boundsOfE();
        tolerance();
        toes();
        draws();
        hoursModulo();
        theLastHour();
        mostBaths();
        mostHurt();
        with32Bits();
        dividedByZero();
        inPlaceOfTheLawBefore();
        inPlaceOfThoseBefore();
        weighings();
        shares();
        stonesAndRows();
        theFirstBytesAlone();
        check();
        Due.end();
    }

    private static RopeScale alike(int weight) {
        RopeScale x = new RopeScale();
        for (int p = 0; p < 16; p++) {
            x.walker(p, weight);
        }
        return x;
    }

    private static boolean holds(String c) {
        RopeScale x = Due.walkers(7);
        Due.is("law of " + c, Due.law(x, "g(" + c + ")"), 1);
        return x.tried(1, 0) + x.tried(1, 1) == 1;
    }

    // ---- the tape

    private static void theTape() {
        RopeScale x = new RopeScale();
        Due.is("empty at first", x.count(5), 0);
        for (int k = 1; k <= 13; k++) {
            Due.is("feed " + k, x.feed(-1, -1, -1, -1, -1), 20 * k);
        }
        Due.is("full", x.feed(1, 1, 1, 1, 1), -1);
        Due.is("full again", x.feed(1, 1, 1, 1, 1), -1);
        Due.is("260", x.count(5), 260);
        Due.is("what was fed first is first", x.row(2, 0), 0);
        Due.is("empty then, of all 260", x.count(5), 0);
        Due.is("fed again", x.feed(0x80FF007F, 0, 0, 0, 0x01020304), 20);
        x.walker(0, 128);
        x.walker(1, 255);
        x.walker(3, 127);
        x.walker(4, 256);
        Due.is("the highest first, none with a sign", x.check(16), -1);
        x.feed(0x01020304, 0x05060708, 0x090A0B0C, 0x0D0E0F10, 0x11121314);
        x.feed(0x15161718, 0, 0, 0, 0);
        Due.is("behind the tape", x.count(5), 40);
        Due.is("in their order", x.row(16, 1), 16);
        RopeScale y = new RopeScale();
        y.feed(0x673C3C3C, 0x3C3C3C3C, 0x3C3C3C3C, 0x3C3C3C3C, 0x3C3C3C3C);
        Due.is("only the first n", y.law(1), -1001);
        Due.is("the rest is gone, too", y.law(1), -1);
    }

    private static void ownMemory() {
        RopeScale x = Due.walkers(5, 6);
        Due.law(x, "g(1=1)");
        Due.weighings(x, "a<b");
        x.rules(9, 9);
        x.seed(9);
        x.keep();
        Due.feed(x, 1, 2, 3);
        RopeScale y = new RopeScale();
        int[] due = {0, 0, 0, 0, 0, 0, 1, 0, 5, 0, 0, 0};
        for (int what = 0; what < 12; what++) {
            Due.is("of another object, count(" + what + ")", y.count(what), due[what]);
        }
        Due.is("another object has none kept", y.undo(), false);
    }

    // ---- no walkers, and all sixteen

    private static void noWalkers() {
        RopeScale x = new RopeScale();
        Due.law(x, "g(1=1);r(1=1);e9(1=1);b5(1=1)");
        for (int what = 0; what < 5; what++) {
            Due.is("none is tried, " + what, x.tried(9, what), 0);
        }
        Due.is("none gets over", x.hours(9), 0);
        Due.is("the hours go by", x.count(0), 9);
        Due.is("nothing is drawn", x.count(6), 1);
        for (int p = 0; p < 16; p++) {
            int none = x.walkerIs(p, 0) + x.standsFor(p, 0) + x.colonel(p, 1) + x.share(9, p) + x.tried(1, 100 + p)
                + x.tried(1, 200 + p);
            Due.is("not told, " + p, none, -6);
        }
        Due.is("no party", x.party(1, 0, 100), -2);
        Due.is("no pairs", x.pairs(999), 0);
        Due.is("no liars", x.liars(0) + x.liars(1), 0);
        Due.is("no liar", x.liars(2), -2);
        Due.is("no teams", x.teams(0) + x.teams(1), 0);
        Due.is("nobody's weight, nobody's baths", x.count(10) + x.count(11) + x.count(1) + x.count(2), 0);
        Due.feed(x, new int[16]);
        Due.is("0 of those who are not told", x.check(16), -1);
        Due.is("a weighing of nobody who is told", Due.weighings(x, "a<b") * 10 + x.areTrue(0) + x.areTrue(1), 10);
        Due.is("which is aside", x.areTrue(2) + x.areTrue(3), -4);
    }

    private static void nobodyIsKept() {
        RopeScale x = new RopeScale();
        Due.is("none was kept", x.undo(), false);
        Due.is("kept", x.keep(), 0);
        x.walker(3, 5);
        x.hours(4);
        x.seed(5);
        Due.is("undone", x.undo(), true);
        Due.is("not told any more", x.count(1) + x.walkerIs(3, 0), -1);
        Due.is("the hour, X", x.count(0) * 10 + x.count(6), 1);
        x.hours(2);
        Due.is("kept last", x.keep(), 2);
        x.hours(2);
        Due.is("undone twice", x.undo() && x.undo(), true);
        Due.is("to what was kept last", x.count(0), 2);
    }

    private static void allSixteen() {
        RopeScale x = alike(999);
        Due.is("told", x.count(1), 65535);
        Due.is("the most that all can weigh", x.count(11), 15984);
        for (int p = 0; p < 16; p++) {
            int other = p == 0 ? 2 : 1;
            Due.is("one other stands for him, " + p, x.standsFor(p, 0) * 10 + x.standsFor(p, 1), other * 10);
            Due.is("fifteen ways, " + p, x.colonel(p, 1), 15);
            Due.is("no two of them, " + p, x.colonel(p, 2), 0);
        }
        Due.is("eight pairs", x.pairs(0), 8);
        Due.is("two teams", x.teams(0) * 1000 + x.teams(1), 255);
        Due.is("the upper eight", x.party(0xFF00, 0, 100) * 100 + x.party(0xFF00, 0, 6), 714);
        Due.orders(x, "p=1");
        Due.is("the last of them", x.teams(0) * 1000 + x.teams(1), 998 * 1000 + 0xFF);
        RopeScale light = alike(1);
        light.walker(15, 15);
        Due.is("all fifteen others", light.standsFor(15, 0), 0x7FFF);
        Due.is("all fifteen in one way", light.colonel(15, 15), 1);
        Due.is("fourteen don't do", light.colonel(15, 14), 0);
        light.rules(1, 0);
        Due.is("fourteen do within 1", light.colonel(15, 14), 15);
        light.rules(99, 0);
        Due.is("any seven or eight", light.colonel(15, 7) + light.colonel(15, 8), 6435 + 6435);
    }

    private static void sixteenGo() {
        RopeScale x = alike(5);
        Due.law(x, "g(n=p);e5(1=1)");
        Due.is("one after the other", x.hours(1), 16);
        Due.is("all are over", x.count(2), 65535);
        Due.is("none goes who is over", x.tried(1, 0) + x.tried(1, 1), 0);
        Due.is("nobody is here to stand for one", x.standsFor(7, 0) * 10 + x.standsFor(7, 1), 5);
        Due.is("nor to make a colonel", x.colonel(7, 1), 0);
        Due.is("nor for a party", x.party(255, 5, 100), -2);
        Due.law(x, "r(16-n=p)");
        Due.is("none gets over by coming back", x.hours(1), 0);
        Due.is("all are here", x.count(2), 0);
        Due.law(x, "g(1=1);f15-p(1=1)");
        Due.is("the upper ones stand for the lower ones", x.hours(1), 8);
        Due.is("who are over", x.count(2), 255);
        Due.is("the others have a bath", x.count(10), 8);
    }

    // ---- weights and claims

    private static int weightAfter(int weight, String orders) {
        RopeScale x = Due.walkers(weight);
        Due.orders(x, orders);
        Due.is("the claim stays by " + orders, x.walkerIs(0, 1), weight);
        return x.walkerIs(0, 0);
    }

    private static void weightByOrders() {
        Due.is("the least", weightAfter(9, "a=1"), 1);
        Due.is("the most", weightAfter(9, "a=999"), 999);
        Due.is("998 and 1", weightAfter(998, "a+1"), 999);
        Due.is("998 and 2", weightAfter(998, "a+2"), 999);
        Due.is("999 and 1", weightAfter(999, "a+1"), 999);
        Due.is("1 and 998", weightAfter(1, "a+998"), 999);
        Due.is("1 and 999", weightAfter(1, "a+999"), 999);
        Due.is("2 less 1", weightAfter(2, "a-1"), 1);
        Due.is("2 less 2", weightAfter(2, "a-2"), 1);
        Due.is("1 less 1", weightAfter(1, "a-1"), 1);
        Due.is("999 less 998", weightAfter(999, "a-998"), 1);
        Due.is("999 less 999", weightAfter(999, "a-999"), 1);
        Due.is("0 more", weightAfter(5, "a+0"), 5);
        Due.is("0 less", weightAfter(5, "a-0"), 5);
        Due.is("line by line, from above", weightAfter(500, "a+999;a-999"), 1);
        Due.is("line by line, from below", weightAfter(500, "a-999;a+999"), 999);
        Due.is("in their order", weightAfter(500, "a=7;a+1;a=3;a-1"), 2);
    }

    private static void claimByOrders() {
        RopeScale x = Due.walkers(50);
        Due.orders(x, "a?1");
        Due.is("the least claim", x.walkerIs(0, 1) * 1000 + x.walkerIs(0, 0), 1050);
        Due.orders(x, "a?999");
        Due.is("the greatest claim", x.walkerIs(0, 1) * 1000 + x.walkerIs(0, 0), 999050);
        Due.orders(x, "a>;a>");
        Due.is("over twice", x.walkerIs(0, 2), 1);
        Due.orders(x, "a<;a<");
        Due.is("here twice", x.walkerIs(0, 2), 0);
        Due.is("no bath, not hurt by orders", x.walkerIs(0, 3) + x.walkerIs(0, 4), 0);
    }

    private static int weightAnHourLater(int weight, String law) {
        RopeScale x = Due.walkers(weight);
        Due.law(x, law);
        x.hours(1);
        return x.walkerIs(0, 0);
    }

    private static void weightByLaw() {
        Due.is("900 and 99", weightAnHourLater(900, "w99(1=1)"), 999);
        Due.is("901 and 99", weightAnHourLater(901, "w99(1=1)"), 999);
        Due.is("899 and 99", weightAnHourLater(899, "w99(1=1)"), 998);
        Due.is("100 less 99", weightAnHourLater(100, "l99(1=1)"), 1);
        Due.is("99 less 99", weightAnHourLater(99, "l99(1=1)"), 1);
        Due.is("101 less 99", weightAnHourLater(101, "l99(1=1)"), 2);
        Due.is("99 and 100", weightAnHourLater(1, "w100(1=1)"), 100);
        Due.is("less than 0 more", weightAnHourLater(50, "w0-1(1=1)"), 50);
        Due.is("less by 100", weightAnHourLater(500, "l100(1=1)"), 401);
        Due.is("less by less than 0", weightAnHourLater(50, "l0-1(1=1)"), 50);
        Due.is("both at the top", weightAnHourLater(999, "w99(1=1);l99(1=1)"), 999);
        Due.is("both at the bottom", weightAnHourLater(1, "w99(1=1);l99(1=1)"), 1);
        Due.is("l is asked ahead of w", weightAnHourLater(10, "w5(1=1);lv(1=1)"), 5);
        Due.is("w is asked ahead of l", weightAnHourLater(10, "l5(1=1);wv(1=1)"), 15);
        Due.is("the first w that holds", weightAnHourLater(10, "w1(v=9);w2(v=10);w3(1=1)"), 12);
    }

    // ---- an hour

    private static void boundsOfE() {
        RopeScale x = alike(1);
        x.walker(15, 600);
        String[] stones = {"998", "999", "1000", "99999", "0-1", LEAST, MOST};
        int[] due = {997, 998, 998, 998, -1, -1, 998};
        for (int k = 0; k < stones.length; k++) {
            Due.law(x, "g(p=0);e" + stones[k] + "(1=1)");
            Due.is("stones " + stones[k], due[k] < 0 ? -x.tried(1, 1) : x.tried(1, 200), due[k]);
        }
        String[] friends = {"14", "15", "16", "99999", MOST};
        for (int k = 0; k < friends.length; k++) {
            Due.law(x, "g(p=0);f" + friends[k] + "(1=1)");
            Due.is("friend " + friends[k], x.tried(1, 200), k == 0 ? 0 : 599);
        }
        x.walker(0, 300);
        String[] lowest = {"0", "0-1", LEAST};
        for (String friend : lowest) {
            Due.law(x, "g(p=1);f" + friend + "(1=1)");
            Due.is("friend " + friend, x.tried(1, 201), 299);
        }
        Due.law(x, "g(p=1);f0(1=2)");
        Due.is("no f that holds: nobody", x.tried(1, 1), 1);
        Due.law(x, "g(p=1);e5(1=2);b5(1=2);w5(1=2);l5(1=2)");
        Due.is("none of the others: 0", x.tried(1, 1) * 1000 + x.tried(1, 101) + x.tried(1, 4), 1001);
    }

    private static void tolerance() {
        int[] tolerances = {0, 1, 98, 99};
        for (int tolerance : tolerances) {
            for (int off = -101; off <= 101; off++) {
                RopeScale x = Due.walkers(200);
                x.rules(tolerance, 5);
                Due.law(x, "g(1=1);e" + (200 + off) + "(1=1)");
                int bath = -off > tolerance ? 1 : 0;
                int flung = off > tolerance ? 1 : 0;
                Due.is("over by " + off + " within " + tolerance, x.hours(1), 1 - bath);
                Due.is("bath", x.walkerIs(0, 3), bath);
                Due.is("hurt", x.walkerIs(0, 4), flung * off);
                Due.is("where", x.walkerIs(0, 2), 1 - bath);
            }
        }
    }

    private static int seedThatDraws(int draw) {
        for (int x = 0; x < 65536; x++) {
            if ((25173L * x + 13849) % 65536 % 10 == draw) {
                return x;
            }
        }
        return -1;
    }

    private static void toes() {
        for (int draw = 0; draw < 10; draw++) {
            RopeScale x = Due.walkers(50);
            x.rules(0, 50);
            x.seed(seedThatDraws(draw));
            for (int b = -1; b <= 11; b++) {
                Due.law(x, "g(1=1);b" + (b < 0 ? "0-1" : b) + "(1=1)");
                int toe = draw < b ? 1 : 0;
                Due.is("toes by " + draw + " below " + b, x.tried(1, 4), toe);
                Due.is("over by it", x.tried(1, 0), toe);
            }
        }
        RopeScale x = Due.walkers(99);
        Due.law(x, "g(1=1);b10(1=1)");
        x.rules(0, 99);
        Due.is("the heaviest toe", x.tried(1, 0) * 10 + x.tried(1, 2), 10);
        x.rules(99, 0);
        Due.is("a toe of 0", x.tried(1, 4) * 10 + x.tried(1, 0), 11);
        x.rules(98, 0);
        Due.is("which weighs nothing", x.tried(1, 4) * 10 + x.tried(1, 0), 10);
    }

    private static void draws() {
        int[] seeds = {0, 1, 2, 32767, 32768, 65534, 65535};
        for (int seed : seeds) {
            RopeScale x = Due.walkers(5, 5);
            x.seed(seed);
            Due.law(x, "g(1=1)");
            x.hours(1);
            long once = (25173L * seed + 13849) % 65536;
            Due.is("two draws from " + seed, x.count(6), (25173 * once + 13849) % 65536);
        }
        RopeScale x = Due.walkers(5);
        Due.law(x, "g(1=1);b5(1=1)");
        Due.is("tried and not drawn", x.tried(240, 1) + x.tried(240, 0) > 0 && x.count(6) == 1, true);
        x.keep();
        x.hours(9);
        int drawn = x.count(6);
        x.undo();
        Due.is("X is undone", x.count(6), 1);
        x.hours(9);
        Due.is("and draws as it did", x.count(6), drawn);
    }

    private static void hoursModulo() {
        RopeScale x = Due.walkers(500);
        Due.law(x, "w1(t=0);l1(t=99)");
        x.hours(99);
        Due.is("t was 0 once, 98 last", x.walkerIs(0, 0), 501);
        x.hours(1);
        Due.is("t was 99", x.walkerIs(0, 0), 500);
        x.hours(1);
        Due.is("t was 0 again", x.walkerIs(0, 0) * 1000 + x.count(0), 501101);
    }

    private static RopeScale atHour(RopeScale x, int hour) {
        while (x.count(0) < hour) {
            x.hours(Math.min(240, hour - x.count(0)));
        }
        return x;
    }

    private static void theLastHour() {
        RopeScale x = atHour(Due.walkers(5, 7), 9998);
        Due.law(x, "g(t=98);w1(1=1);r(1=1);e6(p=0)");
        Due.is("tried: one hour can go by", x.tried(240, 0) * 10 + x.tried(240, 1), 11);
        Due.is("tried: and no more", x.tried(240, 100) * 100 + x.tried(240, 101), 608);
        Due.is("kept at 9998", x.keep(), 9998);
        Due.is("the last hour", x.hours(2), 1);
        Due.is("9999", x.count(0), 9999);
        int drawn = x.count(6);
        Due.law(x, "g(1=1);w1(1=1);r(1=1);e6(1=1)");
        Due.is("then none goes by", x.hours(240), 0);
        Due.is("9999 stays", x.count(0), 9999);
        Due.is("nobody fattens", x.count(11), 14);
        Due.is("nobody comes back", x.count(2), 1);
        Due.is("nobody bathes", x.count(10), 1);
        Due.is("nothing is drawn", x.count(6), drawn);
        int[] due = {0, 0, 0, 1, 0};
        for (int what = 0; what < 5; what++) {
            Due.is("tried then, " + what, x.tried(1, what), due[what]);
        }
        Due.is("weights then", x.tried(240, 100) * 100 + x.tried(240, 101), 608);
        Due.is("hours that can't be", x.hours(0) + x.hours(241), -2);
        Due.is("undone to 9998", x.undo() ? x.count(0) : 0, 9998);
        x.hours(1);
        Due.is("kept at 9999", x.keep(), 9999);
        Due.is("a walker of the last hour", x.walker(0, 3) ? x.count(0) : 0, 9999);
    }

    private static void mostBaths() {
        RopeScale x = alike(9);
        Due.law(x, "g(1=1)");
        atHour(x, 998);
        Due.is("998", x.walkerIs(15, 3) * 100000 + x.count(10), 998 * 100000 + 998 * 16);
        x.hours(1);
        Due.is("999", x.walkerIs(15, 3) * 100000 + x.count(10), 999 * 100000 + 15984);
        x.hours(1);
        Due.is("999 at most", x.walkerIs(15, 3) * 100000 + x.count(10), 999 * 100000 + 15984);
        x.hours(240);
        Due.is("999 still", x.walkerIs(0, 3) * 100000 + x.count(10), 999 * 100000 + 15984);
        Due.is("he stays here", x.count(2), 0);
        Due.is("baths that are tried", x.tried(1, 1), 16);
        Due.law(x, "g(d>998&d<1000);e9(1=1)");
        Due.is("d is 999", x.tried(1, 0), 16);
        x.walker(3, 9);
        Due.is("a new walker has none", x.walkerIs(3, 3) * 100000 + x.count(10), 15984 - 999);
    }

    private static void mostHurt() {
        RopeScale x = Due.walkers(1);
        Due.law(x, "g(1=1);r(1=1);e999(1=1)");
        Due.is("ten flights", x.hours(20), 10);
        Due.is("9980", x.walkerIs(0, 4), 9980);
        Due.law(x, "g(1=1);r(1=1);e19(1=1)");
        x.hours(2);
        Due.is("9998", x.walkerIs(0, 4), 9998);
        x.keep();
        Due.law(x, "g(1=1);r(1=1);e2(1=1)");
        x.hours(2);
        Due.is("9999", x.walkerIs(0, 4), 9999);
        x.hours(2);
        Due.is("9999 at most", x.walkerIs(0, 4), 9999);
        Due.is("flung all the same", x.tried(3, 2), 2);
        x.undo();
        Due.law(x, "g(1=1);r(1=1);e3(1=1)");
        Due.is("9998 and 2, tried", x.tried(1, 200), 9999);
        x.hours(2);
        Due.is("9998 and 2", x.walkerIs(0, 4), 9999);
        Due.law(x, "g(h=9999);e1(1=1)");
        Due.is("h is 9999", x.tried(1, 0), 1);
        x.walker(0, 1);
        Due.is("a new walker is not hurt", x.walkerIs(0, 4), 0);
    }

    // ---- what is reckoned

    private static void with32Bits() {
        String[] so = {LEAST + "<0", MOST + ">0", MOST + "+1=" + LEAST, LEAST + "-1=" + MOST, LEAST + "<" + MOST,
            "0-" + LEAST + "=" + LEAST, LEAST + "*[0-1]=" + LEAST, LEAST + "/[0-1]=" + LEAST, LEAST + "%[0-1]=0",
            "65536*65536=0", "65535*65537=0-1", "99999*99999=14098*[99999+1]+65409", "46341*46341<0",
            "46340*46340>0", MOST + "*2=0-2", MOST + "/[0-1]=0-" + MOST, "[0-7]/2=0-3", "[0-7]%2=0-1",
            "7/[0-2]=0-3", "7%[0-2]=1", "[0-7]/[0-2]=3", "[0-7]%[0-2]=0-1", LEAST + "/" + LEAST + "=1",
            LEAST + "%" + MOST + "=0-1", MOST + "-" + LEAST + "=0-1", "00000=0", "99999=100000-1"};
        for (int k = 0; k < so.length - 1; k++) {
            Due.is("C " + so[k], holds(so[k]), true);
            Due.is("C !" + so[k], holds("!" + so[k]), false);
        }
        Due.is("six digits are none", Due.law(new RopeScale(), "g(" + so[so.length - 1] + ")"), -2013);
    }

    private static void dividedByZero() {
        String[] zero = {"0", "[1-1]", "[0*5]", "p", "o", "n", "d", "h", "t", "[5%5]", "[65536*65536]"};
        for (String one : zero) {
            Due.is("/" + one, holds("1/" + one + "=1") || holds("!1/" + one + "=1"), false);
            Due.is("%" + one, holds("1%" + one + "=1") || holds("!1%" + one + "=1"), false);
            Due.is("0/" + one, holds("0/" + one + "=0") || holds("0/" + one + "=0|1=1"), false);
            Due.is("not asked: /" + one, holds("1=1|1/" + one + "=1"), true);
            Due.is("not asked in a PART: /" + one, holds("1=2&1/" + one + "=1|1=1"), true);
            Due.is("asked on the right: /" + one, holds("1=1/" + one) || holds("!1=1%" + one), false);
        }
        RopeScale x = Due.walkers(10);
        Due.law(x, "g(1=1);e10+1/0(1=1);e10(1=1)");
        Due.is("a refused E is 0, and no other rule is asked", x.tried(1, 1), 1);
        Due.law(x, "g(1=1);e9(1/0=1);e10(1=1)");
        Due.is("a refused C does not hold, and the next is asked", x.tried(1, 0), 1);
        Due.law(x, "g(1/0=0);g(1=1);r(1/0=0)");
        Due.is("of g, too", x.tried(1, 1), 1);
        Due.orders(x, "a>");
        Due.is("of r, too", x.tried(1, 3), 1);
    }

    private static void inPlaceOfTheLawBefore() {
        RopeScale x = Due.walkers(1);
        for (int k = 1; k <= 12; k++) {
            StringBuilder law = new StringBuilder("g(1=1);e").append(100 + k);
            while (law.length() < 233) {
                law.append("+1");
            }
            law.append("(1=1)");
            Due.is("a long law, " + k, Due.law(x, law.toString()), 2);
            Due.is("what it says", x.tried(1, 200), 210 + k);
            Due.is("a long one with a fault, " + k, Due.law(x, law + ";"), -1239);
            Due.is("what the one before says", x.tried(1, 200), 210 + k);
        }
        Due.is("a short one", Due.law(x, "w1(1=1)"), 1);
        Due.is("nothing of those before", x.tried(1, 100) * 10 + x.tried(1, 0) + x.tried(1, 1), 20);
    }

    // ---- what is found

    private static void inPlaceOfThoseBefore() {
        RopeScale x = Due.walkers(1, 2, 3, 4, 5, 6);
        for (int k = 0; k < 3; k++) {
            Due.is("six lines", Due.weighings(x, "a<b;b<c;c<d;d<e;e<f;a=f"), 6);
            Due.is("five are so", x.areTrue(0) * 100 + x.areTrue(2), 505);
        }
        for (int k = 0; k < 3; k++) {
            Due.is("one line", Due.weighings(x, "a<c"), 1);
            Due.is("one is so", x.areTrue(0) * 10 + x.areTrue(1), 11);
            Due.is("none is not so", x.areTrue(2) + x.areTrue(3), -4);
            Due.is("its letters alone", x.count(9), 5);
            Due.is("who is odd by it alone", x.odd(0) * 10 + x.odd(1), 41);
            Due.is("who is heavier by it alone", x.heavier(2, 0) * 10 + x.heavier(5, 0), 10);
            Due.is("who is as heavy by it alone", x.heavier(0, 1), 1);
        }
    }

    private static void weighings() {
        RopeScale x = alike(5);
        Due.weighings(x, "abcdefgh<ijklmnop");
        Due.is("eight could be too heavy, eight too light", x.odd(0) * 256 + x.odd(1), 0xFF00 * 256 + 0xFF);
        Due.is("not all alike", x.odd(2), 0);
        Due.weighings(x, "abcdefgh=ijklmnop");
        Due.is("none is odd", x.odd(0) + x.odd(1), 0);
        Due.is("all alike", x.odd(2), 1);
        StringBuilder rising = new StringBuilder("a<b");
        StringBuilder even = new StringBuilder("a=b");
        for (char one = 'c'; one <= 'p'; one++) {
            rising.append(';').append((char) (one - 1)).append('<').append(one);
            even.append(';').append((char) (one - 1)).append('=').append(one);
        }
        Due.is("fifteen lines", Due.weighings(x, rising.toString()), 15);
        Due.is("p is heavier than all others", x.heavier(15, 0) * 65536L + x.heavier(15, 1), 0x7FFFL << 16 | 0x8000);
        Due.is("a is heavier than none", x.heavier(0, 0) * 65536 + x.heavier(0, 1), 1);
        Due.is("none so, the first not so", x.areTrue(0) * 10 + x.areTrue(2), 0);
        Due.is("sixteen lines", Due.weighings(x, rising + ";p<a"), 16);
        Due.is("in a ring", x.heavier(0, 0) + x.heavier(15, 1), -6);
        Due.weighings(x, even.toString());
        Due.is("all as heavy", x.heavier(0, 1) * 65536L + x.heavier(15, 0), 65535L << 16);
        Due.is("all so", x.areTrue(0) * 10 + x.areTrue(2), 148);
        Due.weighings(x, even + ";p>a");
        Due.is("heavier than he himself", x.heavier(7, 0) + x.heavier(7, 1), -6);
        Due.is("the last line is not so", x.areTrue(2) * 100 + x.areTrue(0), 1515);
        Due.weighings(x, even + ";ab<c");
        Due.is("a line of more letters is aside", x.heavier(7, 0) * 65536 + x.heavier(7, 1), 65535);
        Due.is("for the odd one, too", x.odd(2), 1);
    }

    private static void shares() {
        RopeScale x = alike(7);
        for (int toll = 0; toll <= 33; toll++) {
            for (int p = 0; p < 16; p++) {
                Due.is("share of " + toll + " of " + p, x.share(toll, p), toll / 16 + (p < toll % 16 ? 1 : 0));
            }
        }
        RopeScale two = Due.walkers(1, 998);
        Due.is("a part below a half", two.share(499, 0) * 1000 + two.share(499, 1), 499);
        Due.is("a part above a half", two.share(500, 0) * 1000 + two.share(500, 1), 1499);
        RopeScale heavy = alike(999);
        Due.is("the greatest toll, p", heavy.share(99999, 15), 6249);
        Due.is("the greatest toll, o", heavy.share(99999, 14), 6250);
    }

    private static void stonesAndRows() {
        RopeScale x = new RopeScale();
        Due.feed(x, 1, 3, 9, 27, 81, 243, 255, 255);
        Due.is("eight on both pans", x.stones(8, true), 874);
        Due.feed(x, 1, 2, 4, 8, 16, 32, 64, 128);
        Due.is("eight on one pan", x.stones(8, false), 255);
        Due.feed(x, 255, 254, 253, 252, 251, 250, 249, 248);
        Due.is("eight on one pan, none of 1", x.stones(8, false), 0);
        Due.feed(x, 255);
        Due.is("the heaviest alone", x.fewest(1, 255), 1);
        Due.feed(x, 255);
        Due.is("one more can't be", x.fewest(1, 256), -2);
        Due.feed(x, 255);
        Due.is("the heaviest on a seesaw", x.seesaw(1), 255);
        Due.feed(x, 255, 1);
        Due.is("as far off as can be", x.seesaw(2), 250);
        Due.feed(x, 255, 255, 255, 1, 1);
        Due.is("five of them", x.seesaw(5), 0);
        Due.feed(x, 0, 255, 0, 255, 0, 255, 0, 255, 0, 255, 0, 255, 0, 255, 0, 255);
        Due.is("sixteen in a row", x.row(16, 0), 7);
        Due.feed(x, 0, 255, 0, 255, 0, 255, 0, 255, 0, 255, 0, 255, 0, 255, 0, 255);
        Due.is("side by side", x.row(16, 1), 2);
        Due.feed(x, 255, 255);
        Due.is("never heavier on the left", x.scales(2, 0, 1), 0);
        Due.feed(x, 255, 255);
        Due.is("as heavy is not heavier", x.scales(2, 2, 0) * 10, 0);
        Due.feed(x, 0, 0);
        Due.is("weights of 0", x.scales(2, 3, 0), 0);
    }

    private static RopeScale fed(RopeScale x, int... bytes) {
        Due.feed(x, bytes);
        return x;
    }

    /** Neither what stands behind the first n bytes nor what an earlier call took counts. */
    private static void theFirstBytesAlone() {
        RopeScale x = new RopeScale();
        Due.is("fewest of two", fed(x, 5, 3).fewest(2, 3), 1);
        Due.is("fewest of one", fed(x, 5, 3).fewest(1, 3), -2);
        Due.is("fewest of one on the other pan", fed(x, 5).fewest(1, 2), -2);
        Due.is("stones of two", fed(x, 1, 2).stones(2, false), 3);
        Due.is("stones of one", fed(x, 1, 2).stones(1, false), 1);
        Due.is("stones of one on both pans", fed(x, 1, 2).stones(1, true), 1);
        Due.is("seesaw of two", fed(x, 7, 7).seesaw(2), 0);
        Due.is("seesaw of one", fed(x, 7, 7).seesaw(1), 7);
        Due.is("a row of three", fed(x, 3, 2, 4).row(3, 0), 1);
        Due.is("a row of one", fed(x, 3, 2, 4).row(1, 0), 0);
        Due.is("side by side of two", fed(x, 3, 4, 5).row(2, 1), 2);
        for (int what = 0; what < 2; what++) {
            Due.is("scales of two, " + what, fed(x, 1, 9).scales(2, 3, what), what == 0 ? 2 : 10);
            Due.is("scales of one, " + what, fed(x, 1, 9).scales(1, 3, what), 1);
        }
    }

    private static void check() {
        RopeScale x = alike(5);
        int[] weights = {1, 255, 256, 257, 511, 512, 513, 767, 768, 769, 999, 998, 1, 1, 1, 1};
        int[] bytes = new int[16];
        for (int p = 0; p < 16; p++) {
            x.walker(p, weights[p]);
            bytes[p] = weights[p] % 256;
        }
        Due.feed(x, bytes);
        Due.is("all right", x.check(16), -1);
        for (int p = 0; p < 16; p++) {
            int[] wrong = bytes.clone();
            wrong[p]++;
            wrong[15] = p == 15 ? wrong[15] : 77;
            Due.feed(x, wrong);
            Due.is("the first that is not so, " + p, x.check(16), p);
            Due.feed(x, wrong);
            Due.is("not asked for, " + p, x.check(p), -1);
            Due.is("empty then", x.count(5), 0);
        }
        Due.is("not so many", x.check(1), -2);
        Due.feed(x, bytes);
        Due.is("no such n", x.check(17) + x.check(-1), -4);
        Due.is("the tape stays", x.count(5), 20);
    }
}
