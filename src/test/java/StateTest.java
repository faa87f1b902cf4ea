/** Promises 1 to 4, 10, 27 to 31: the new object, walkers, rules, the tape, what is kept, undone, checked and counted. */
public final class StateTest {
    public static void main(String[] args) {
        newObject();
        walker();
        rules();
        tape();
        seed();
        keepAndUndo();
        check();
        count();
        Due.end();
    }

    private static void newObject() {
        RopeScale x = new RopeScale();
        int[] due = {0, 0, 0, 0, 0, 0, 1, 0, 5, 0, 0, 0};
        for (int what = 0; what < due.length; what++) {
            Due.is("new count(" + what + ")", x.count(what), due[what]);
        }
        for (int p = -1; p <= 16; p++) {
            Due.is("new walkerIs(" + p + ")", x.walkerIs(p, 0), RopeScale.NONE);
        }
        Due.is("new undo", x.undo(), false);
    }

    private static void walker() {
        RopeScale x = new RopeScale();
        Due.is("walker(-1)", x.walker(-1, 5), false);
        Due.is("walker(16)", x.walker(16, 5), false);
        Due.is("weight 0", x.walker(3, 0), false);
        Due.is("weight 1000", x.walker(3, 1000), false);
        Due.is("none is told", x.count(1), 0);
        Due.is("weight 1", x.walker(0, 1), true);
        Due.is("weight 999", x.walker(15, 999), true);
        Due.is("told", x.count(1), 0x8001);
        int[] due = {999, 999, 0, 0, 0};
        for (int what = 0; what < 5; what++) {
            Due.is("walkerIs(15, " + what + ")", x.walkerIs(15, what), due[what]);
        }
        Due.is("walkerIs what 5", x.walkerIs(15, 5), -1);
        Due.is("walkerIs what -1", x.walkerIs(15, -1), -1);
        Due.is("walkerIs not told", x.walkerIs(1, 0), -1);
        Due.law(x, "g(p=0);e200(1=1)");
        x.hours(1);
        Due.law(x, "g(p=15)");
        x.hours(1);
        Due.orders(x, "p?7");
        Due.is("over", x.count(2), 1);
        Due.is("hurt", x.walkerIs(0, 4), 199);
        Due.is("baths", x.walkerIs(15, 3), 1);
        x.walker(0, 20);
        x.walker(15, 30);
        Due.is("here again", x.count(2), 0);
        Due.is("not hurt", x.walkerIs(0, 4), 0);
        Due.is("no baths", x.walkerIs(15, 3), 0);
        Due.is("a new claim", x.walkerIs(15, 1), 30);
    }

    private static void rules() {
        RopeScale x = new RopeScale();
        Due.is("rules(0, 0)", x.rules(0, 0), true);
        Due.is("rules(99, 99)", x.rules(99, 99), true);
        Due.is("rules(100, 1)", x.rules(100, 1), false);
        Due.is("rules(1, 100)", x.rules(1, 100), false);
        Due.is("rules(-1, 1)", x.rules(-1, 1), false);
        Due.is("rules(1, -1)", x.rules(1, -1), false);
        Due.is("tolerance stays", x.count(7), 99);
        Due.is("toe stays", x.count(8), 99);
        x.rules(3, 4);
        Due.is("tolerance", x.count(7), 3);
        Due.is("toe", x.count(8), 4);
    }

    private static void tape() {
        RopeScale x = Due.walkers(1, 2, 3, 4, 250, 251, 252, 253, 9);
        Due.is("the highest byte first", x.feed(0x01020304, 0xFAFBFCFD, 0x09000000, 0, 0), 20);
        Due.is("in its order", x.check(16), -1);
        for (int k = 1; k <= 13; k++) {
            Due.is("feed " + k, x.feed(0, 0, 0, 0, -1), 20 * k);
        }
        Due.is("more than 260", x.feed(0, 0, 0, 0, 0), -1);
        Due.is("260 stay", x.count(5), 260);
        Due.is("too long a law", x.law(241), -1);
        Due.is("too short a law", x.law(0), -1);
        Due.is("too long orders", x.orders(121), -1);
        Due.is("too short orders", x.orders(0), -1);
        Due.is("too long weighings", x.weighings(121), -1);
        Due.is("too short weighings", x.weighings(0), -1);
        Due.is("weighings below 0", x.weighings(-1), -1);
        Due.is("all of it stays", x.count(5), 260);
        Due.is("a fault uses the tape up", x.law(240), -1000);
        Due.is("empty", x.count(5), 0);
        x.feed(0, 0, 0, 0, 0);
        Due.is("a law longer than the tape", x.law(21), -1);
        Due.is("orders longer than the tape", x.orders(21), -1);
        Due.is("weighings longer than the tape", x.weighings(21), -1);
        Due.is("twenty stay", x.count(5), 20);
    }

    private static void seed() {
        RopeScale x = new RopeScale();
        Due.is("seed(-1)", x.seed(-1), false);
        Due.is("seed(65536)", x.seed(65536), false);
        Due.is("X stays", x.count(6), 1);
        Due.is("seed(65535)", x.seed(65535), true);
        Due.is("X", x.count(6), 65535);
        Due.is("seed(0)", x.seed(0), true);
        Due.is("X 0", x.count(6), 0);
    }

    private static void keepAndUndo() {
        RopeScale x = Due.walkers(60, 40);
        x.rules(2, 3);
        Due.law(x, "g(p=0);w1(1=1)");
        x.hours(3);
        Due.orders(x, "b>");
        Due.is("keep", x.keep(), 3);
        int kept = x.count(6);
        x.hours(4);
        Due.orders(x, "b<;a?9");
        x.walker(5, 70);
        x.rules(7, 8);
        x.seed(77);
        Due.weighings(x, "a<b");
        for (int k = 0; k < 2; k++) {
            Due.is("undo", x.undo(), true);
            Due.is("the hour", x.count(0), 3);
            Due.is("X", x.count(6), kept);
            Due.is("told", x.count(1), 3);
            Due.is("over", x.count(2), 2);
            Due.is("weight", x.walkerIs(0, 0), 63);
            Due.is("claim", x.walkerIs(0, 1), 60);
            Due.is("baths", x.walkerIs(0, 3), 3);
            Due.is("tolerance is not kept", x.count(7), 7);
            Due.is("the toe is not kept", x.count(8), 8);
            Due.is("weighings are not kept", x.count(3), 1);
            Due.is("the law is not kept", x.count(4), 2);
            x.hours(1);
        }
        Due.is("keep anew", x.keep(), 4);
        x.hours(1);
        x.undo();
        Due.is("the last that was kept", x.count(0), 4);
        Due.is("nobody of before", x.walkerIs(5, 0), -1);
    }

    private static void check() {
        RopeScale x = new RopeScale();
        x.walker(0, 255);
        x.walker(1, 256);
        x.walker(3, 999);
        Due.feed(x, 255, 0, 0, 231);
        Due.is("right", x.check(16), 4);
        Due.feed(x, 255, 0, 0, 231);
        Due.is("the four", x.check(4), -1);
        Due.is("used up", x.count(5), 0);
        Due.feed(x, 255, 1, 1, 231);
        Due.is("the first that is not so", x.check(4), 1);
        Due.feed(x, 254);
        Due.is("none of them", x.check(0), -1);
        Due.is("used up by none", x.count(5), 0);
        Due.is("none of nothing", x.check(0), -1);
        Due.is("not so many", x.check(1), -2);
        Due.feed(x, 255);
        Due.is("17", x.check(17), -2);
        Due.is("-1", x.check(-1), -2);
        Due.is("it stays", x.count(5), 20);
    }

    private static void count() {
        RopeScale x = Due.walkers(10, 20, 30);
        Due.law(x, "g(1=1);e10(p=0)");
        Due.weighings(x, "ac<p;b=d");
        x.hours(2);
        x.feed(0, 0, 0, 0, 0);
        int[] due = {2, 7, 1, 2, 2, 20, x.count(6), 0, 5, 0x800F, 4, 60};
        for (int what = 0; what < due.length; what++) {
            Due.is("count(" + what + ")", x.count(what), due[what]);
        }
        Due.is("count(12)", x.count(12), -1);
        Due.is("count(-1)", x.count(-1), -1);
    }
}
