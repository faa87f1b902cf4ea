/** Promises 11 to 13 and 17 to 20: who stands for whom, colonels, parties, pairs, liars, teams and shares. */
public final class ChoiceTest {
    private static final int[] SIXTEEN = {503, 211, 97, 340, 12, 77, 158, 266, 401, 33, 5, 120, 64, 289, 450, 19};

    public static void main(String[] args) {
        standsFor();
        colonel();
        party();
        partyRefused();
        pairs();
        liars();
        teams();
        share();
        Due.end();
    }

    private static void standsFor() {
        RopeScale x = Due.walkers(10, 4, 6, 3, 7, 10);
        Due.is("the fewest", x.standsFor(0, 0), 32);
        Due.orders(x, "f>");
        Due.is("of two twos the least bits", x.standsFor(0, 0), 6);
        Due.is("of one who is over", x.standsFor(5, 0), 1);
        Due.orders(x, "c>");
        Due.is("here alone", x.standsFor(0, 0), 24);
        Due.orders(x, "d>");
        Due.is("how far off", x.standsFor(0, 1), 1);
        Due.is("as near below as above: the fewer, the least", x.standsFor(0, 0), 18);
        RopeScale y = Due.walkers(4, 8);
        Due.is("none is as near as one", y.standsFor(0, 0), 0);
        Due.is("by as much", y.standsFor(0, 1), 4);
        RopeScale lone = Due.walkers(9);
        Due.is("nobody else", lone.standsFor(0, 0), 0);
        Due.is("nobody's weight", lone.standsFor(0, 1), 9);
        RopeScale all = Due.walkers(SIXTEEN);
        for (int p = 0; p < 16; p++) {
            int bits = all.standsFor(p, 0);
            Due.is("not he himself", bits >> p & 1, 0);
            Due.is("off " + p, Math.abs(sum(SIXTEEN, bits) - SIXTEEN[p]), all.standsFor(p, 1));
        }
        Due.is("all of fifteen", Due.walkers(15, 1, 1, 1, 1, 1, 1, 1, 1, 1, 1, 1, 1, 1, 1, 1).standsFor(0, 0), 0xFFFE);
        Due.is("not told", x.standsFor(6, 0), -1);
        Due.is("p -1", x.standsFor(-1, 0), -1);
        Due.is("p 16", x.standsFor(16, 0), -1);
        Due.is("what 2", x.standsFor(0, 2), -1);
        Due.is("what -1", x.standsFor(0, -1), -1);
    }

    private static int sum(int[] weights, int bits) {
        int sum = 0;
        for (int p = 0; p < weights.length; p++) {
            sum += (bits >> p & 1) * weights[p];
        }
        return sum;
    }

    private static void colonel() {
        RopeScale x = Due.walkers(10, 1, 2, 3, 4, 5, 6, 7, 8, 9, 10);
        int[] due = {1, 4, 4, 1, 0, 0};
        for (int k = 1; k <= 6; k++) {
            Due.is("ways of " + k, x.colonel(0, k), due[k - 1]);
        }
        x.rules(1, 5);
        Due.is("within 1", x.colonel(0, 1), 2);
        Due.is("twos within 1", x.colonel(0, 2), 4 + 4 + 5);
        x.rules(0, 5);
        Due.orders(x, "k>;a>");
        Due.is("here alone, for one who is over", x.colonel(0, 1), 0);
        RopeScale boys = Due.walkers(7, 1, 1, 1, 1, 1, 1, 1, 1, 1, 1, 1, 1, 1, 1, 1);
        Due.is("seven of fifteen", boys.colonel(0, 7), 6435);
        Due.is("fifteen", boys.colonel(0, 15), 0);
        boys.rules(8, 0);
        Due.is("fifteen within 8", boys.colonel(0, 15), 1);
        Due.is("k 0", boys.colonel(0, 0), -1);
        Due.is("k 16", boys.colonel(0, 16), -1);
        Due.is("not told", x.colonel(11, 1), -1);
        Due.is("p -1", x.colonel(-1, 1), -1);
        Due.is("p 16", x.colonel(16, 1), -1);
    }

    private static void row(RopeScale x, int walkers, int stone, int... due) {
        Due.is("party " + walkers + ", " + stone, x.party(walkers, stone, 100), due.length);
        for (int place = 0; place < 8; place++) {
            Due.is("place " + place, x.party(walkers, stone, place), place < due.length ? due[place] : -4);
        }
    }

    private static void party() {
        RopeScale x = Due.walkers(30, 60, 20, 10, 61);
        row(x, 31, 0, 1, 0);
        row(x, 31, 10, 1, 0, 2, 3);
        row(x, 2, 0);
        row(x, 2, 60, 1);
        row(x, 1 << 4 | 2, 1, 4);
        x.rules(1, 5);
        row(x, 18, 0, 1);
        x.rules(61, 5);
        row(x, 31, 0, 0, 1, 2, 3, 4);
        RopeScale y = Due.walkers(5, 5, 5, 5, 5, 5, 5, 5, 5);
        row(y, 0x1FE, 0, 1, 2, 3, 4, 5, 6, 7);
        row(y, 0xFF, 5, 0, 1, 2, 3, 4, 5, 6, 7);
        RopeScale late = new RopeScale();
        late.walker(15, 8);
        late.walker(13, 3);
        late.walker(2, 5);
        row(late, 0xA004, 3, 13, 15);
        row(late, 0xA004, 2, 15, 2);
        RopeScale loss = Due.walkers(4, 2, 2, 6);
        row(loss, 15, 0, 3, 0, 1);
        Due.is("tolerance with the stone", toleratedStone(), 1);
    }

    private static int toleratedStone() {
        RopeScale x = Due.walkers(50);
        x.rules(2, 5);
        return x.party(1, 52, 100) * x.party(1, 48, 100) - x.party(1, 53, 100) - x.party(1, 47, 100);
    }

    private static void partyRefused() {
        RopeScale x = Due.walkers(1, 2, 3, 4, 5, 6, 7, 8, 9);
        Due.is("nine", x.party(0x1FF, 0, 100), -1);
        Due.is("nobody", x.party(0, 0, 100), -1);
        Due.is("no such walker", x.party(1 << 16, 0, 100), -1);
        Due.is("below 0", x.party(1 << 31, 0, 100), -1);
        Due.is("-1", x.party(-1, 0, 100), -1);
        Due.is("stone -1", x.party(1, -1, 100), -1);
        Due.is("stone 1000", x.party(1, 1000, 100), -1);
        Due.is("stone 999", x.party(1, 999, 100), 0);
        Due.is("what -1", x.party(1, 0, -1), -1);
        Due.is("what 8", x.party(1, 0, 8), -1);
        Due.is("what 99", x.party(1, 0, 99), -1);
        Due.is("what 101", x.party(1, 0, 101), -1);
        Due.is("not told", x.party(1 << 9, 0, 100), -2);
        Due.is("not told, with a place", x.party(1 << 9, 0, 7), -2);
        Due.is("not told, no such what", x.party(1 << 9, 0, 8), -1);
        Due.orders(x, "a>");
        Due.is("over", x.party(3, 0, 100), -2);
        Due.is("here", x.party(2, 2, 100), 1);
    }

    private static void pairs() {
        RopeScale x = Due.walkers(10, 30, 11, 31, 12, 33, 999);
        int[][] due = {{0, 0}, {1, 2}, {2, 2}, {17, 2}, {18, 3}, {966, 3}, {999, 3}};
        for (int[] one : due) {
            Due.is("pairs(" + one[0] + ")", x.pairs(one[0]), one[1]);
        }
        Due.orders(x, "a>;b>");
        Due.is("over or here", x.pairs(1), 2);
        Due.is("none nearer, but chained", Due.walkers(1, 3, 5, 7).pairs(2), 2);
        Due.is("the middle ones alone", Due.walkers(1, 5, 7, 11).pairs(3), 1);
        Due.is("as heavy", Due.walkers(7, 7, 7, 7, 7).pairs(0), 2);
        Due.is("the heavier one first", Due.walkers(9, 1).pairs(7) * 10 + Due.walkers(9, 1).pairs(8), 1);
        Due.is("one", Due.walkers(7).pairs(999), 0);
        Due.is("eight twos", Due.walkers(SIXTEEN).pairs(999), 8);
        Due.is("-1", x.pairs(-1), -1);
        Due.is("1000", x.pairs(1000), -1);
    }

    private static void liars() {
        RopeScale x = Due.walkers(10, 20, 30, 40);
        Due.is("none", x.liars(0) * 1000 + x.liars(1) * 10 + x.liars(2), -2);
        Due.orders(x, "d?41");
        Due.is("the least lie there can be", x.liars(0) * 100 + x.liars(1) * 10 + x.liars(2), 813);
        Due.orders(x, "b?25;c?25;d?41");
        Due.is("who", x.liars(0), 14);
        Due.is("the greatest", x.liars(1), 5);
        Due.is("whose, the lowest", x.liars(2), 1);
        Due.orders(x, "d=999;d>");
        Due.is("by weight", x.liars(1) * 100 + x.liars(2), 95803);
        Due.orders(x, "a?999");
        Due.is("the first of them", x.liars(1) * 100 + x.liars(2), 98900);
        Due.is("what 3", x.liars(3), -1);
        Due.is("what -1", x.liars(-1), -1);
    }

    private static void teams() {
        RopeScale x = Due.walkers(4, 5, 6, 7, 8);
        Due.is("even", x.teams(0), 0);
        Due.is("the lowest's", x.teams(1), 1 | 2 | 4);
        RopeScale one = new RopeScale();
        one.walker(7, 33);
        Due.is("one alone", one.teams(0) * 1000 + one.teams(1), 33128);
        one.walker(9, 3);
        Due.is("two", one.teams(0) * 1000 + one.teams(1), 30128);
        RopeScale alike = Due.walkers(5, 5, 5, 5);
        Due.is("the least bits", alike.teams(1), 3);
        Due.orders(alike, "a>");
        Due.is("over or here", alike.teams(1), 3);
        RopeScale odd = Due.walkers(5, 5, 5);
        Due.is("the one or the two", odd.teams(0) * 100 + odd.teams(1), 501);
        RopeScale all = Due.walkers(SIXTEEN);
        int bits = all.teams(1);
        Due.is("with a", bits & 1, 1);
        Due.is("of sixteen", Math.abs(2 * sum(SIXTEEN, bits) - sum(SIXTEEN, 0xFFFF)), all.teams(0));
        Due.is("what 2", x.teams(2), -1);
        Due.is("what -1", x.teams(-1), -1);
    }

    private static void share() {
        RopeScale x = Due.walkers(1, 1, 1);
        Due.is("the lowest first", x.share(5, 0) * 100 + x.share(5, 1) * 10 + x.share(5, 2), 221);
        Due.is("all alike", x.share(99999, 2), 33333);
        RopeScale y = Due.walkers(1, 2, 4);
        Due.is("most was left out", y.share(10, 0) * 100 + y.share(10, 1) * 10 + y.share(10, 2), 136);
        Due.orders(y, "a>");
        Due.is("over or here", y.share(10, 0), 1);
        RopeScale all = Due.walkers(SIXTEEN);
        for (int toll = 0; toll < 100000; toll += 7001) {
            int sum = 0;
            for (int p = 0; p < 16; p++) {
                sum += all.share(toll, p);
            }
            Due.is("all of " + toll, sum, toll);
        }
        RopeScale heavy = Due.walkers(999, 999, 998);
        Due.is("the greatest toll", heavy.share(99999, 0) + heavy.share(99999, 1) + heavy.share(99999, 2), 99999);
        Due.is("-1", x.share(-1, 0), -1);
        Due.is("100000", x.share(100000, 0), -1);
        Due.is("not told", x.share(5, 3), -1);
        Due.is("p -1", x.share(5, -1), -1);
        Due.is("p 16", x.share(5, 16), -1);
        Due.is("nobody told", new RopeScale().share(5, 0), -1);
    }
}
