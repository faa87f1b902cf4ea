/** Promises 14 to 16: which weighings are true, who is odd, and who is heavier than whom. */
public final class WeighingTest {
    public static void main(String[] args) {
        areTrue();
        odd();
        heavier();
        Due.end();
    }

    private static void areTrue() {
        RopeScale x = Due.walkers(10, 20, 30);
        Due.is("none so", x.areTrue(0), 0);
        Due.is("none not so", x.areTrue(2), -2);
        Due.weighings(x, "a<b;ab=c;c>b;ad<c;b<a;a=p");
        Due.is("by weights", x.areTrue(0), 3);
        Due.is("by claims", x.areTrue(1), 3);
        Due.is("the first that is not so", x.areTrue(2), 4);
        Due.is("not so by claims", x.areTrue(3), 4);
        Due.orders(x, "a?40");
        Due.is("by weights as before", x.areTrue(0), 3);
        Due.is("by other claims", x.areTrue(1), 2);
        Due.is("not so by other claims", x.areTrue(3), 0);
        Due.orders(x, "b=31;a>");
        Due.is("by other weights", x.areTrue(0), 1);
        Due.is("not so by other weights", x.areTrue(2), 1);
        x.walker(3, 1);
        Due.is("now he is told", x.areTrue(0), 2);
        RopeScale nobody = new RopeScale();
        Due.weighings(nobody, "a<b;a>b");
        Due.is("all are aside", nobody.areTrue(0) * 10 + nobody.areTrue(2), -2);
        RopeScale y = Due.walkers(9, 8, 7, 6, 5, 4, 3, 2, 1, 2, 3, 4, 5, 6, 7, 8);
        Due.weighings(y, "abcdefgh>ijklmnop;bcdefgh<ijklmnop;p=b;a>p");
        Due.is("all of them so", y.areTrue(0), 4);
        Due.is("what 4", x.areTrue(4), -1);
        Due.is("what -1", x.areTrue(-1), -1);
    }

    private static void odds(String text, int heavy, int light, int alike) {
        RopeScale x = Due.walkers(1, 500);
        Due.weighings(x, text);
        Due.is("too heavy by " + text, x.odd(0), heavy);
        Due.is("too light by " + text, x.odd(1), light);
        Due.is("alike by " + text, x.odd(2), alike);
    }

    private static void odd() {
        odds("a=b", 0, 0, 1);
        odds("a<b", 2, 1, 0);
        odds("a>b", 1, 2, 0);
        odds("ab<cd", 12, 3, 0);
        odds("ab<cd;a=c", 8, 2, 0);
        odds("ab<cd;a<c", 4, 1, 0);
        odds("ab<cd;ac<be", 0, 1, 0);
        odds("ab<cd;ce>af", 4, 1, 0);
        odds("ab<cd;ab>cd", 0, 0, 0);
        odds("a=b;cde=f", 0x3C, 0x3C, 1);
        odds("a<b;cde=f", 2, 1, 0);
        odds("abc<d", 15, 15, 1);
        odds("ab=cd;ef>gp", 0x30, 0x8040, 0);
        RopeScale x = new RopeScale();
        Due.is("no weighings", x.odd(0) + x.odd(1) * 10 + x.odd(2) * 100, 100);
        Due.is("what 3", x.odd(3), -1);
        Due.is("what -1", x.odd(-1), -1);
    }

    private static void rank(String text, int p, int lighter, int alike) {
        RopeScale x = Due.walkers(500, 1);
        Due.weighings(x, text);
        Due.is("lighter than " + p + " by " + text, x.heavier(p, 0), lighter);
        Due.is("as heavy as " + p + " by " + text, x.heavier(p, 1), alike);
    }

    private static void heavier() {
        rank("a<b", 1, 1, 2);
        rank("a<b", 0, 0, 1);
        rank("a>b", 0, 2, 1);
        rank("b>a;a>c", 1, 5, 2);
        rank("b=a;a=c", 1, 0, 7);
        rank("b>p;p>c", 1, 0x8004, 2);
        rank("a=b;b=c;p=c", 15, 0, 0x8007);
        rank("p>o;o>n;n>m", 15, 0x7000, 0x8000);
        rank("m<n;n<o;o<p", 15, 0x7000, 0x8000);
        rank("a=b;a>c", 1, 4, 3);
        rank("a=b;c>a", 2, 3, 4);
        rank("o=p;p>n", 14, 0x2000, 0xC000);
        rank("a=b;c=d;b>c;d>e", 0, 4 + 8 + 16, 3);
        rank("b>c;d>e;c=d;a=b", 0, 4 + 8 + 16, 3);
        rank("b>c;d>e;c=d;a=b", 3, 16, 12);
        rank("ab<c;d<ef;g>h", 2, 0, 4);
        rank("ab=c;a=b", 2, 0, 4);
        rank("a<b;b<c;c<a", 9, -3, -3);
        rank("a=b;b=c;c<a", 9, -3, -3);
        rank("a=b;c=d;a<c;d<b", 0, -3, -3);
        rank("ab<c;c<ab", 2, 0, 4);
        RopeScale x = new RopeScale();
        Due.is("no weighings", x.heavier(15, 0) * 100000 + x.heavier(15, 1), 32768);
        Due.weighings(x, "a<b;b<a");
        Due.is("p -1", x.heavier(-1, 0), -1);
        Due.is("p 16", x.heavier(16, 0), -1);
        Due.is("what 2", x.heavier(0, 2), -1);
        Due.is("what -1", x.heavier(0, -1), -1);
    }
}
