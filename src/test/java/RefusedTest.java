import java.util.ArrayList;
import java.util.LinkedHashMap;
import java.util.List;
import java.util.Map;

/**
 * What a call leaves as it is: of two objects with the same story one gets the call, and then both are asked for all
 * that they can tell.
 */
public final class RefusedTest {
    private interface Call {
        int of(RopeScale x);
    }

    private static final String NEXT_LAW = "g(p<3);e30(1=1);b5(1=1);w2(o=0);r(t>1)";
    private static final int FAULT = -1000;

    private static Map<String, Call> calls = new LinkedHashMap<>();

    public static void main(String[] args) {
        refused();
        asked();
        emptied();
        faults();
        undoWithoutKeep();
        Due.end();
    }

    private static int bit(boolean answer) {
        return answer ? 1 : 0;
    }

    /** An object with something of all that there can be, other than at first, and a tape with a law on it. */
    private static RopeScale story() {
        RopeScale x = Due.walkers(60, 30, 20, 10, 61);
        x.walker(15, 999);
        x.rules(2, 7);
        x.seed(77);
        Due.law(x, "g(p<2);e45(1=1);b3(1=1)");
        x.hours(2);
        Due.orders(x, "d?55;e>");
        x.keep();
        Due.law(x, "g(1=1);r(p=1);f4(p=0);e45(1=1);b5(1=1);w1(1=1);l3(p=3)");
        Due.weighings(x, "a<e;bc>d;a=bcd;b<c;c=d;ap=e");
        x.hours(3);
        Due.orders(x, "b?9;p>;e<");
        Due.feed(x, NEXT_LAW);
        return x;
    }

    private static void lookAt(RopeScale x, List<Integer> found) {
        for (int what = 0; what < 12; what++) {
            found.add(x.count(what));
        }
        for (int p = 0; p < 16; p++) {
            for (int what = 0; what < 5; what++) {
                found.add(x.walkerIs(p, what));
            }
        }
        for (int what = 0; what < 5; what++) {
            found.add(x.tried(9, what));
        }
        for (int p = 0; p < 16; p++) {
            found.add(x.tried(9, 100 + p));
            found.add(x.heavier(p, 0));
            found.add(x.heavier(p, 1));
        }
        for (int what = 0; what < 4; what++) {
            found.add(x.areTrue(what));
            found.add(x.odd(what));
        }
    }

    /** What it tells at once, by the law that is on its tape, and when it is undone. */
    private static List<Integer> all(RopeScale x) {
        List<Integer> found = new ArrayList<>();
        lookAt(x, found);
        found.add(x.law(NEXT_LAW.length()));
        for (int what = 0; what < 5; what++) {
            found.add(x.tried(7, what));
        }
        found.add(bit(x.undo()));
        lookAt(x, found);
        return found;
    }

    private static void same(String name, List<Integer> got, List<Integer> want) {
        Due.is(name + ": as much is told", got.size(), want.size());
        for (int k = 0; k < want.size(); k++) {
            Due.is(name + ": what is told, " + k, got.get(k), want.get(k));
        }
    }

    private static void changesNothing(String name, Call call, int answer) {
        RopeScale x = story();
        Due.is(name, call.of(x), answer);
        same(name, all(x), all(story()));
    }

    /** The tape is empty then, and nothing else is changed. */
    private static void emptiesTheTape(String name, Call call, int answer) {
        RopeScale x = story();
        RopeScale twin = story();
        twin.check(0);
        Due.is(name, call.of(x), answer);
        Due.is(name + ": the tape is empty", x.count(5), 0);
        Due.feed(x, NEXT_LAW);
        Due.feed(twin, NEXT_LAW);
        same(name, all(x), all(twin));
    }

    private static void put(String name, Call call) {
        calls.put(name, call);
    }

    private static void refused() {
        calls.clear();
        put("walker(-1, 5)", x -> bit(x.walker(-1, 5)) - 1);
        put("walker(16, 5)", x -> bit(x.walker(16, 5)) - 1);
        put("walker(0, 0)", x -> bit(x.walker(0, 0)) - 1);
        put("walker(0, 1000)", x -> bit(x.walker(0, 1000)) - 1);
        put("walker(5, 0)", x -> bit(x.walker(5, 0)) - 1);
        put("rules(100, 3)", x -> bit(x.rules(100, 3)) - 1);
        put("rules(3, 100)", x -> bit(x.rules(3, 100)) - 1);
        put("rules(-1, 3)", x -> bit(x.rules(-1, 3)) - 1);
        put("rules(3, -1)", x -> bit(x.rules(3, -1)) - 1);
        put("seed(-1)", x -> bit(x.seed(-1)) - 1);
        put("seed(65536)", x -> bit(x.seed(65536)) - 1);
        int[] wrong = {-1, 0, 41, 121, 241, Integer.MIN_VALUE, Integer.MAX_VALUE};
        for (int n : wrong) {
            put("law(" + n + ")", x -> x.law(n));
            put("orders(" + n + ")", x -> x.orders(n));
            put("weighings(" + n + ")", x -> x.weighings(n));
            put("stones(" + n + ")", x -> x.stones(n, true));
            put("fewest(" + n + ")", x -> x.fewest(n, 5));
            put("seesaw(" + n + ")", x -> x.seesaw(n));
            put("row(" + n + ")", x -> x.row(n, 0));
            put("scales(" + n + ")", x -> x.scales(n, 1, 0));
        }
        for (int n : new int[] {-1, 17, 41}) {
            put("check(" + n + ")", x -> x.check(n) + 1);
        }
        refusedQuestions();
        for (Map.Entry<String, Call> one : calls.entrySet()) {
            changesNothing(one.getKey(), one.getValue(), RopeScale.NONE);
        }
        refusedFeed();
    }

    private static void refusedQuestions() {
        put("hours(0)", x -> x.hours(0));
        put("hours(241)", x -> x.hours(241));
        put("tried(0, 0)", x -> x.tried(0, 0));
        put("tried(241, 0)", x -> x.tried(241, 0));
        put("tried(1, 5)", x -> x.tried(1, 5));
        put("tried(1, 105), who is not told", x -> x.tried(1, 105));
        put("tried(1, 205), who is not told", x -> x.tried(1, 205));
        put("stones(9)", x -> x.stones(9, false));
        put("fewest(9, 5)", x -> x.fewest(9, 5));
        put("fewest(3, 0)", x -> x.fewest(3, 0));
        put("fewest(3, 2041)", x -> x.fewest(3, 2041));
        put("seesaw(6)", x -> x.seesaw(6));
        put("row(17, 0)", x -> x.row(17, 0));
        put("row(3, 2)", x -> x.row(3, 2));
        put("row(3, -1)", x -> x.row(3, -1));
        put("scales(11, 1, 0)", x -> x.scales(11, 1, 0));
        put("scales(3, -1, 0)", x -> x.scales(3, -1, 0));
        put("scales(3, 1024, 0)", x -> x.scales(3, 1024, 0));
        put("scales(3, 1, 2)", x -> x.scales(3, 1, 2));
        put("scales(3, 1, -1)", x -> x.scales(3, 1, -1));
        put("walkerIs(5, 0)", x -> x.walkerIs(5, 0));
        put("standsFor(5, 0)", x -> x.standsFor(5, 0));
        put("standsFor(0, 2)", x -> x.standsFor(0, 2));
        put("colonel(5, 2)", x -> x.colonel(5, 2));
        put("colonel(0, 0)", x -> x.colonel(0, 0));
        put("party(0, 0, 100)", x -> x.party(0, 0, 100));
        put("party(3, 0, 99)", x -> x.party(3, 0, 99));
        put("share(5, 5)", x -> x.share(5, 5));
        put("share(100000, 0)", x -> x.share(100000, 0));
        put("count(12)", x -> x.count(12));
    }

    private static void refusedFeed() {
        RopeScale x = story();
        RopeScale twin = story();
        for (int k = 3; k <= 13; k++) {
            Due.is("feed " + k, x.feed(k, 2, 3, 4, 5) - twin.feed(k, 2, 3, 4, 5), 0);
        }
        Due.is("a full tape", x.count(5), 260);
        Due.is("one more feed", x.feed(1, 2, 3, 4, 5), RopeScale.NONE);
        Due.is("and one more", x.feed(0, 0, 0, 0, 0), RopeScale.NONE);
        same("a feed that is refused", all(x), all(twin));
    }

    private static void asked() {
        calls.clear();
        RopeScale due = story();
        put("keepless tried(240, 0)", x -> x.tried(240, 0));
        put("tried(240, 4)", x -> x.tried(240, 4));
        put("tried(9, 100)", x -> x.tried(9, 100));
        put("tried(9, 215)", x -> x.tried(9, 215));
        put("walkerIs", x -> x.walkerIs(15, 0));
        put("standsFor(0, 0)", x -> x.standsFor(0, 0));
        put("standsFor(15, 1)", x -> x.standsFor(15, 1));
        put("colonel(0, 3)", x -> x.colonel(0, 3));
        put("party(31, 10, 100)", x -> x.party(31, 10, 100));
        put("party(32768, 10, 100)", x -> x.party(32768, 10, 100));
        put("party(31, 10, 7)", x -> x.party(31, 10, 7));
        put("areTrue(0)", x -> x.areTrue(0));
        put("areTrue(3)", x -> x.areTrue(3));
        put("odd(0)", x -> x.odd(0));
        put("heavier(4, 0)", x -> x.heavier(4, 0));
        put("pairs(5)", x -> x.pairs(5));
        put("liars(1)", x -> x.liars(1));
        put("teams(1)", x -> x.teams(1));
        put("share(99, 0)", x -> x.share(99, 0));
        put("falseOne(99)", x -> x.falseOne(99, false));
        put("count(5)", x -> x.count(5));
        for (Map.Entry<String, Call> one : calls.entrySet()) {
            changesNothing(one.getKey(), one.getValue(), one.getValue().of(due));
        }
    }

    private static void emptied() {
        // The tape begins with g ( p < 3 ) ;
        emptiesTheTape("stones", x -> x.stones(8, false), 0);
        emptiesTheTape("fewest", x -> x.fewest(2, 'g' - '('), 2);
        emptiesTheTape("fewest that can't be", x -> x.fewest(1, 7), -2);
        emptiesTheTape("seesaw", x -> x.seesaw(1), 'g');
        emptiesTheTape("row", x -> x.row(3, 0), 1);
        emptiesTheTape("scales", x -> x.scales(2, 1, 1), 'g');
        emptiesTheTape("check", x -> x.check(16), 0);
        emptiesTheTape("check of none", x -> x.check(0), RopeScale.NONE);
        emptiesTheTape("stones of 0", x -> withZero(x).stones(2, true), -2);
        emptiesTheTape("fewest of 0", x -> withZero(x).fewest(2, 1), -3);
        emptiesTheTape("seesaw of 0", x -> withZero(x).seesaw(2), -2);
    }

    private static RopeScale withZero(RopeScale x) {
        x.check(0);
        Due.feed(x, 1, 0);
        return x;
    }

    private static Call text(String kind, String text) {
        return x -> {
            x.check(0);
            switch (kind) {
                case "law": return Due.law(x, text);
                case "orders": return Due.orders(x, text);
                default: return Due.weighings(x, text);
            }
        };
    }

    private static void faults() {
        emptiesTheTape("a law with a fault at its end", text("law", "g(1=2);w9(1=1);e"), FAULT - 16);
        emptiesTheTape("a law with a fault at once", text("law", "x"), FAULT);
        emptiesTheTape("a law too deep", text("law", "g(1=2);e[[[[[[[1"), 5 * FAULT - 14);
        emptiesTheTape("a law with a sixth digit", text("law", "w123456(1=1)"), 2 * FAULT - 6);
        emptiesTheTape("a 17th rule", text("law", Due.times(17, "w9(1=1)")), 4 * FAULT - 128);
        emptiesTheTape("orders whose last line is wrong", text("orders", "a=5;b?5;c+5;d-5;a>;e<;p=0"), 3 * FAULT - 24);
        emptiesTheTape("orders that don't end", text("orders", "a=5;b>;p<;"), FAULT - 10);
        emptiesTheTape("orders of one who is not told", text("orders", "a=5;b>;f<"), 7 * FAULT - 7);
        emptiesTheTape("a fourth digit", text("orders", "a=5;b>;a+9999"), 2 * FAULT - 12);
        emptiesTheTape("a 21st line", text("orders", Due.times(21, "b>")), 4 * FAULT - 60);
        emptiesTheTape("weighings that don't end", text("weighings", "n=o;p<"), FAULT - 6);
        emptiesTheTape("a letter twice", text("weighings", "n=o;p<mp"), 6 * FAULT - 7);
        emptiesTheTape("a 17th weighing", text("weighings", Due.times(17, "n=o")), 4 * FAULT - 64);
    }

    private static void undoWithoutKeep() {
        RopeScale x = Due.walkers(5, 6);
        Due.law(x, "g(1=1)");
        x.hours(3);
        int baths = x.count(10);
        Due.is("none was kept", x.undo(), false);
        Due.is("nothing is undone", x.count(0) * 100 + x.count(10), 300 + baths);
        Due.is("nobody is forgotten", x.count(1), 3);
    }
}
