/** Promises 5, 8 and 9: what the law says, hours that go by, and hours that are tried. */
public final class HourTest {
    public static void main(String[] args) {
        reckoning();
        refused();
        kinds();
        bounds();
        weights();
        crossing();
        friends();
        draws();
        theHour();
        tried();
        wrongCalls();
        Due.end();
    }

    /** An E is read off by the stones that a walker of weight 1 is flung by. */
    private static void value(String e, int due) {
        RopeScale x = Due.walkers(1);
        Due.law(x, "g(1=1);e" + e + "(1=1)");
        Due.is("E " + e, due == 0 ? x.tried(1, 1) - 1 : x.tried(1, 200) + 1, due);
    }

    private static boolean holds(RopeScale x, String c) {
        Due.law(x, "g(" + c + ")");
        return x.tried(1, 0) + x.tried(1, 1) > 0;
    }

    private static void condition(String c, boolean due) {
        Due.is("C " + c, holds(Due.walkers(7), c), due);
    }

    private static void reckoning() {
        value("10-3-2", 5);
        value("2+3*4", 14);
        value("[2+3]*4", 20);
        value("100/10/5", 2);
        value("100/[10/5]", 50);
        value("7/1", 7);
        value("7+7%1", 7);
        value("7/7+6/7", 1);
        value("17%10*3", 21);
        value("3*17%10", 1);
        value("7-10+5", 2);
        value("[7-10]*[0-1]", 3);
        value("10+[0-7]/2", 7);
        value("10+[0-7]%4", 7);
        value("99999*99999", 999);
        value("50000*50000", 0);
        value("[50000*42949+33648]/[0-1]", 0);
        value("1+[50000*42949+33648+[0-1]+1]%[0-1]", 1);
        condition("1=1", true);
        condition("1=2", false);
        condition("1<2&2>1", true);
        condition("2<2|2>2", false);
        condition("1=2|1=1&1=2", false);
        condition("1=1|1=1&1=2", true);
        condition("(1=2|1=1)&1=2", false);
        condition("!1=2", true);
        condition("!1=1|1=1", true);
        condition("!(1=1|1=1)", false);
        condition("!!1=1", true);
        condition("!1=1&1=1", false);
        condition("1=2&1=1|1=1", true);
        condition("0-1<0", true);
        condition("p=0&v=7&c=7&o=0&n=0&d=0&h=0&t=0", true);
    }

    private static void refused() {
        value("1/0", 0);
        value("5+1/0", 0);
        value("5+1%0", 0);
        value("5+0*[1/[1-1]]", 0);
        condition("1/0=1", false);
        condition("!1/0=1", false);
        condition("!1%0=1", false);
        condition("1/0=1|1=1", false);
        condition("1=1|1/0=1", true);
        condition("1=2&1/0=1|1=1", true);
        condition("(1=1|1/0=1)&1=1", true);
        condition("1=1&1/0=1|1=1", false);
        condition("!(1=2&1/0=1)", true);
        condition("!(1=1&1/0=1)", false);
        condition("(1=2|!(1/0=1))|1=1", false);
        condition("1=2|1=2|1=1|1/0=1", true);
        condition("1=1&1=2&1/0=1|1=1", true);
        RopeScale x = Due.walkers(30, 9);
        Due.law(x, "g(p=1);f1/0(1=1);f1(1=1)");
        Due.is("the E that is refused is a", x.tried(1, 201), 21);
        Due.law(x, "g(p=0);e10(1/0=1);e20(1=1)");
        Due.is("a C that is refused does not hold", x.tried(1, 1), 1);
        Due.law(x, "g(p=0);e10(1/0=1);e31(1=1)");
        Due.is("the next rule is asked", x.tried(1, 200), 1);
    }

    private static void kinds() {
        RopeScale x = Due.walkers(10, 20, 30);
        Due.is("no law: none goes", x.hours(1), 0);
        Due.law(x, "e10(1=1)");
        Due.is("no g: none goes", x.hours(1) + x.count(10), 0);
        Due.law(x, "g(p=0);g(p=1);e10(p=0);e20(1=1)");
        Due.is("any of g will do", x.hours(1), 2);
        Due.is("the first of e counts", x.walkerIs(0, 4) + x.walkerIs(1, 4), 0);
        Due.law(x, "g(1=1);e99(1=1)");
        Due.is("no r: none comes back", x.hours(1), 1);
        Due.is("all are over", x.count(2), 7);
        Due.law(x, "r(p=1);r(p=2);g(1=1)");
        Due.is("any of r will do", x.hours(1), 0);
        Due.is("who is back does not go at once", x.count(2) * 10 + x.count(10), 10);
        Due.is("but in the next hour", x.tried(1, 1), 2);
    }

    private static void bounds() {
        RopeScale x = Due.walkers(1, 50);
        Due.law(x, "g(p=0);e2000(1=1)");
        Due.is("999 stones at most", x.tried(1, 200), 998);
        Due.law(x, "g(p=0);e0-5(1=1);e9(1=1)");
        Due.is("0 stones at least", x.tried(1, 1), 1);
        Due.law(x, "w200(1=1)");
        Due.is("99 more at most", x.tried(1, 100), 100);
        Due.law(x, "w0-9(1=1)");
        Due.is("0 more at least", x.tried(1, 101), 50);
        Due.law(x, "l200(1=1)");
        Due.orders(x, "b=150");
        Due.is("99 less at most", x.tried(1, 101), 51);
        Due.law(x, "l0-9(1=1)");
        Due.is("0 less at least", x.tried(1, 101), 150);
        x.walker(15, 77);
        Due.law(x, "g(p=0);f99(1=1)");
        Due.is("p at most stands for him", x.tried(1, 200), 76);
        Due.law(x, "g(p=1);f0-3(1=1);e149(1=1)");
        Due.is("a at least stands for him", x.tried(1, 201) * 10 + x.tried(1, 0), 1);
        Due.law(x, "g(p=0);b99(1=1)");
        Due.is("10 tenths at most", x.tried(1, 4), 1);
        Due.law(x, "g(p=0);b0-1(1=1)");
        Due.is("0 tenths at least", x.tried(1, 4), 0);
    }

    private static void weights() {
        RopeScale x = Due.walkers(990, 5);
        Due.law(x, "w20(p=0);l15(p=0);l9(1=1)");
        Due.is("both at once", x.tried(1, 100), 995);
        Due.is("1 at least", x.tried(1, 101), 1);
        Due.law(x, "w20(1=1)");
        Due.is("999 at most", x.tried(1, 100), 999);
        Due.law(x, "w10(1=1);lv-990(1=1)");
        Due.is("both are asked ahead", x.tried(1, 100), 999);
        Due.law(x, "w5(p=1);g(v=10);e10(1=1)");
        Due.is("g is asked of the new weight", x.tried(1, 0), 1);
        Due.law(x, "g(1=1);e999(1=1)");
        x.hours(1);
        Due.law(x, "w1(o=1)");
        x.hours(1);
        Due.is("who is over fattens, too", x.walkerIs(0, 0) * 1000 + x.walkerIs(1, 0), 991006);
        Due.is("the claim stays", x.walkerIs(1, 1), 5);
    }

    private static void crossing() {
        RopeScale x = Due.walkers(50, 53, 54, 47, 46);
        x.rules(3, 5);
        Due.law(x, "g(1=1);e50(1=1)");
        Due.is("over", x.hours(1), 4);
        Due.is("who", x.count(2), 0x1B);
        Due.is("a bath", x.walkerIs(2, 3), 1);
        Due.is("not flung", x.walkerIs(3, 4), 0);
        Due.is("flung by the whole difference", x.walkerIs(4, 4), 4);
        Due.is("no bath for him", x.walkerIs(4, 3), 0);
        RopeScale y = Due.walkers(1);
        Due.law(y, "g(1=1);r(1=1);e999(1=1)");
        Due.is("half of the hours", y.hours(20), 10);
        Due.is("hurt", y.walkerIs(0, 4), 9980);
        y.hours(2);
        Due.is("hurt at most", y.walkerIs(0, 4), 9999);
        Due.is("hurt at most as tried", y.tried(240, 200), 9999);
        RopeScale z = Due.walkers(9);
        Due.law(z, "g(1=1)");
        for (int k = 0; k < 5; k++) {
            Due.is("none gets over", z.hours(240), 0);
        }
        Due.is("baths at most", z.walkerIs(0, 3), 999);
        Due.is("baths that are tried", z.tried(7, 1), 7);
        Due.law(z, "g(d=999);e9(1=1)");
        Due.is("d", z.tried(1, 0), 1);
        Due.law(y, "g(h=9999)");
        Due.is("h", y.tried(1, 1), 1);
    }

    private static void friends() {
        RopeScale x = Due.walkers(30, 20, 10);
        Due.law(x, "g(1=1);f1(p=0);e10(p=0)");
        Due.is("a friend and stones", x.tried(1, 0), 1);
        Due.law(x, "g(p=0);f5(1=1)");
        Due.is("one who is not told", x.tried(1, 1), 1);
        Due.law(x, "g(p=0);f0(1=1);f1(1=1)");
        Due.is("not he himself, nor the next rule", x.tried(1, 1), 1);
        Due.law(x, "g(p=0);f1(1=2);e30(1=1)");
        Due.is("nobody", x.tried(1, 0) * 10 + x.tried(1, 2), 10);
        Due.orders(x, "b>");
        Due.law(x, "g(p=0);f1(1=1)");
        Due.is("one who is over", x.tried(1, 1), 1);
        Due.orders(x, "b<");
        Due.law(x, "g(p<2);e30(p=0);f0(p=1)");
        Due.is("he has gone ahead of him", x.tried(1, 1), 1);
        Due.law(x, "g(p=1);w1(1=1);f0(1=1)");
        Due.is("as fat as he is then", x.tried(1, 201), 31 - 21);
        Due.law(x, "g(p>0);w1(1=1);f2(p=1);f1(p=2)");
        Due.is("not fat yet", x.tried(1, 1), 1);
        Due.law(x, "g(n=p);e99(1=1)");
        Due.is("n as it is then", x.tried(1, 3), 3);
    }

    private static void draws() {
        RopeScale x = Due.walkers(5);
        Due.law(x, "g(1=1);b5(1=1)");
        long state = 1;
        int toes = 0;
        for (int k = 0; k < 40; k++) {
            x.walker(0, 5);
            state = (25173 * state + 13849) % 65536;
            int got = x.hours(1);
            Due.is("draw " + k, got, state % 10 < 5 ? 1 : 0);
            Due.is("X " + k, x.count(6), state);
            toes += got;
        }
        Due.is("some toes, not all", toes > 5 && toes < 35, true);
        Due.law(x, "g(p=0)");
        x.walker(0, 5);
        x.hours(1);
        state = (25173 * state + 13849) % 65536;
        Due.is("drawn without b", x.count(6), state);
        Due.law(x, "g(1=2);b5(1=1)");
        x.hours(1);
        Due.is("not drawn by who stays", x.count(6), state);
        x.seed(65535);
        Due.law(x, "g(1=1);b10(1=1)");
        Due.is("a toe", x.hours(1), 1);
        Due.is("X from 65535", x.count(6), (25173L * 65535 + 13849) % 65536);
        x.hours(1);
        Due.is("not drawn by who is over", x.count(6), (25173L * 65535 + 13849) % 65536);
        x.walker(0, 5);
        x.rules(5, 0);
        Due.is("a toe of 0 is a toe", x.tried(1, 4), 1);
        x.rules(0, 0);
        Due.is("and weighs nothing", x.tried(1, 1), 1);
    }

    private static void theHour() {
        RopeScale x = Due.walkers(1);
        for (int k = 0; k < 41; k++) {
            x.hours(240);
        }
        Due.is("9840", x.count(0), 9840);
        Due.law(x, "w1(t=40)");
        x.hours(1);
        Due.is("t is modulo 100", x.walkerIs(0, 0), 2);
        Due.law(x, "w1(1=1)");
        Due.is("as many as can", x.tried(240, 100), 160);
        Due.is("none gets over", x.hours(240), 0);
        Due.is("9999", x.count(0), 9999);
        Due.is("158 went by", x.walkerIs(0, 0), 160);
        x.hours(1);
        Due.is("none goes by", x.walkerIs(0, 0) * 10000 + x.count(0), 1609999);
        Due.is("none is tried", x.tried(5, 100), 160);
    }

    private static void tried() {
        RopeScale x = Due.walkers(10, 20, 5, 15);
        Due.law(x, "g(1=1);r(p=0);e15(1=1);b5(1=1);w1(p=3);l1(p=1)");
        int[] before = facts(x);
        int[] what = {0, 1, 2, 3, 4, 100, 101, 102, 103, 200, 201, 202, 203};
        int[] due = new int[what.length];
        for (int k = 0; k < what.length; k++) {
            due[k] = x.tried(9, what[k]);
        }
        int[] after = facts(x);
        for (int k = 0; k < before.length; k++) {
            Due.is("fact " + k + " stays", after[k], before[k]);
        }
        Due.is("over, each time", x.hours(9), due[0]);
        Due.is("more than are over", due[0] > Integer.bitCount(x.count(2)), true);
        Due.is("baths", x.count(10), due[1]);
        Due.is("some are flung", due[2] > 0, true);
        Due.is("are over", Integer.bitCount(x.count(2)), due[3]);
        for (int p = 0; p < 4; p++) {
            Due.is("weight of " + p, x.walkerIs(p, 0), due[5 + p]);
            Due.is("hurt of " + p, x.walkerIs(p, 4), due[9 + p]);
        }
    }

    private static int[] facts(RopeScale x) {
        int[] facts = new int[12 + 16 * 5];
        for (int k = 0; k < facts.length; k++) {
            facts[k] = k < 12 ? x.count(k) : x.walkerIs((k - 12) / 5, (k - 12) % 5);
        }
        return facts;
    }

    private static void wrongCalls() {
        RopeScale x = Due.walkers(10, 20);
        Due.is("hours(0)", x.hours(0), -1);
        Due.is("hours(241)", x.hours(241), -1);
        Due.is("hours(-1)", x.hours(-1), -1);
        Due.is("tried(0)", x.tried(0, 0), -1);
        Due.is("tried(241)", x.tried(241, 0), -1);
        Due.is("the hour stays", x.count(0), 0);
        int[] wrong = {-1, 5, 99, 102, 115, 116, 199, 202, 215, 216, 1000, -100};
        for (int what : wrong) {
            Due.is("tried what " + what, x.tried(1, what), -1);
        }
        Due.is("tried(240)", x.tried(240, 101), 20);
        Due.is("hours(240)", x.hours(240), 0);
    }
}
