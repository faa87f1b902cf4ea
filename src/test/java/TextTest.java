/** Promises 5 to 7: the texts of the law, of orders and of weighings, and their faults. */
public final class TextTest {
    public static void main(String[] args) {
        orders();
        orderFaults();
        weighings();
        weighingFaults();
        laws();
        lawFaults();
        lawDepth();
        Due.end();
    }

    private static void orders() {
        RopeScale x = Due.walkers(60, 40);
        Due.is("six lines", Due.orders(x, "a=5;a?7;b+10;b-3;a>;b<"), 6);
        Due.is("set", x.walkerIs(0, 0), 5);
        Due.is("claimed", x.walkerIs(0, 1), 7);
        Due.is("more, less", x.walkerIs(1, 0), 47);
        Due.is("the other's claim", x.walkerIs(1, 1), 40);
        Due.is("over", x.count(2), 1);
        Due.orders(x, "b>;a<");
        Due.is("here, over", x.count(2), 2);
        Due.orders(x, "a+999;a-998;a-0;a+00");
        Due.is("bound at 999 first", x.walkerIs(0, 0), 1);
        Due.orders(x, "b-46");
        Due.is("1 at least", x.walkerIs(1, 0), 1);
        Due.is("007", Due.orders(x, "a=007"), 1);
        Due.is("seven", x.walkerIs(0, 0), 7);
        Due.is("twenty", Due.orders(x, Due.times(20, "a+1")), 20);
        Due.is("twenty more", x.walkerIs(0, 0), 27);
        String longest = Due.times(19, "a+001") + ";a+000";
        Due.is("119 bytes", Due.orders(x, longest), 20);
    }

    private static void orderFault(String text, int due) {
        RopeScale x = Due.walkers(60, 40);
        Due.is("orders " + text, Due.orders(x, text), due);
        Due.is("nothing is done by " + text, x.count(11) * 10000 + x.count(2), 1000000);
        Due.is("used up by " + text, x.count(5), 0);
    }

    private static void orderFaults() {
        orderFault(";", -1000);
        orderFault("q=5", -1000);
        orderFault("A=5", -1000);
        orderFault("`=5", -1000);
        orderFault("a", -1001);
        orderFault("a5", -1001);
        orderFault("a=", -1002);
        orderFault("a=;", -1002);
        orderFault("a=x", -1002);
        orderFault("a=5;", -1004);
        orderFault("a=5;;", -1004);
        orderFault("a=5 ", -1003);
        orderFault("a>5", -1002);
        orderFault("a>b", -1002);
        orderFault("a+-5", -1002);
        orderFault("a=1234", -2005);
        orderFault("a+0000", -2005);
        orderFault("a=0000", -2005);
        orderFault("a=0", -3002);
        orderFault("a=000", -3002);
        orderFault("a?00x", -3002);
        orderFault("a=5;a?0;q", -3006);
        orderFault("c=5", -7000);
        orderFault("cx", -7000);
        orderFault("a=5;p>;q", -7004);
        orderFault("a=5;b=0;c=5", -3006);
        orderFault(Due.times(20, "a+1") + ";a", -4080);
        orderFault(Due.times(20, "a+1") + ";c", -4080);
        orderFault(Due.times(20, "a+1") + ";q", -1080);
        orderFault(Due.times(20, "a+1") + ";", -1080);
        orderFault(Due.times(20, "a+1") + "x", -1079);
        orderFault("a=5" + (char) 233, -1003);
        orderFault("" + (char) 255, -1000);
    }

    private static void weighings() {
        RopeScale x = new RopeScale();
        Due.is("one line", Due.weighings(x, "abcdefgh=ijklmnop"), 1);
        Due.is("all letters", x.count(9), 65535);
        Due.is("two lines", Due.weighings(x, "a<b;a>b"), 2);
        Due.is("in place of those before", x.count(9), 3);
        Due.is("a fault", Due.weighings(x, "c<d;e"), -1005);
        Due.is("those before stay", x.count(9) * 100 + x.count(3), 302);
        Due.is("sixteen", Due.weighings(x, Due.times(16, "abc=p")), 16);
        Due.is("none of the tape is left", x.count(5), 0);
    }

    private static void weighingFault(String text, int due) {
        RopeScale x = new RopeScale();
        Due.weighings(x, "a=b");
        Due.is("weighings " + text, Due.weighings(x, text), due);
        Due.is("those before stay", x.count(9) * 100 + x.count(3), 301);
        Due.is("used up by " + text, x.count(5), 0);
    }

    private static void weighingFaults() {
        weighingFault("=", -1000);
        weighingFault(";", -1000);
        weighingFault("q", -1000);
        weighingFault("a", -1001);
        weighingFault("a;b", -1001);
        weighingFault("aq<b", -1001);
        weighingFault("a<", -1002);
        weighingFault("a<;", -1002);
        weighingFault("a<=b", -1002);
        weighingFault("a<b=c", -1003);
        weighingFault("a<b;", -1004);
        weighingFault("a<b;;", -1004);
        weighingFault("a<bq", -1003);
        weighingFault("aba<c", -6002);
        weighingFault("ab<cda", -6005);
        weighingFault("ab<cc", -6004);
        weighingFault("a<b;ab<b", -6007);
        weighingFault("abcdefghijklmnopa", -6016);
        weighingFault(Due.times(16, "a<b") + ";p", -4064);
        weighingFault(Due.times(16, "a<b") + ";<", -1064);
        weighingFault(Due.times(16, "a<b") + ";", -1064);
    }

    private static void laws() {
        RopeScale x = new RopeScale();
        Due.is("seven kinds", Due.law(x, "g(1=1);r(1=1);f1(1=1);e1(1=1);b1(1=1);w1(1=1);l1(1=1)"), 7);
        Due.is("all letters", Due.law(x, "ep+v-c*o/n%d+h-t(p<v&c>o|n=d&!h=t)"), 1);
        Due.is("brackets", Due.law(x, "e[[1]+[2*[3]]](([1]=1)&!!(2=2|[[3]]=3))"), 1);
        Due.is("five digits", Due.law(x, "e99999(00000=0)"), 1);
        Due.is("sixteen", Due.law(x, Due.times(16, "g(1=1)")), 16);
        StringBuilder longest = new StringBuilder("e1");
        while (longest.length() < 235) {
            longest.append("+1");
        }
        longest.setLength(235);
        longest.setCharAt(234, '1');
        longest.append("(1=1)");
        Due.is("240 bytes", Due.law(x, longest.toString()), 1);
        Due.is("one rule", x.count(4), 1);
        Due.is("a fault", Due.law(x, "g(1=1);"), -1007);
        Due.is("the one before stays", x.count(4), 1);
        x.walker(0, 117);
        Due.law(x, "e1(");
        Due.is("as it was", Due.law(x, longest + "x"), -1);
    }

    private static void lawFault(String text, int due) {
        RopeScale x = new RopeScale();
        Due.law(x, "g(1=1);r(1=1)");
        Due.is("law " + text, Due.law(x, text), due);
        Due.is("the one before stays", x.count(4), due > 0 ? due : 2);
        Due.is("used up by " + text, x.count(5), 0);
    }

    private static void lawFaults() {
        lawFault("p(1=1)", -1000);
        lawFault("g", -1001);
        lawFault("g1(1=1)", -1001);
        lawFault("g[1=1]", -1001);
        lawFault("e(1=1)", -1001);
        lawFault("e-1(1=1)", -1001);
        lawFault("e1", -1002);
        lawFault("e1=1", -1002);
        lawFault("e1+(1=1)", -1003);
        lawFault("g()", -1002);
        lawFault("g(1)", -1003);
        lawFault("g(1+)", -1004);
        lawFault("g(1=)", -1004);
        lawFault("g(1=1", -1005);
        lawFault("g(1=1]", -1005);
        lawFault("g(1=1=1)", -1005);
        lawFault("g(1=1))", -1006);
        lawFault("g(1=1)g", -1006);
        lawFault("g(1=1);", -1007);
        lawFault("g(1=1);;", -1007);
        lawFault("g(1=1&)", -1006);
        lawFault("g(1=1|&1=1)", -1006);
        lawFault("g((1=1)=1)", -1007);
        lawFault("g((1)=1)", -1004);
        lawFault("g(!1)", -1004);
        lawFault("g(1!=1)", -1003);
        lawFault("g([1=1)", -1004);
        lawFault("g([1)=1)", -1004);
        lawFault("g(x=1)", -1002);
        lawFault("g(1=1 )", -1005);
        lawFault("g(123456=1)", -2007);
        lawFault("e000000(1=1)", -2006);
        lawFault("g(1=123456", -2009);
        lawFault(Due.times(16, "g(1=1)") + ";g", -4112);
        lawFault(Due.times(16, "g(1=1)") + ";x", -1112);
        lawFault(Due.times(16, "g(1=1)") + ";", -1112);
        lawFault("g(1=1" + (char) 200, -1005);
    }

    private static void lawDepth() {
        lawFault("g((((((1=1))))))", 1);
        lawFault("g(((((((1=1)))))))", -5007);
        lawFault("g(!!!!!1=1)", 1);
        lawFault("g(!!!!!!1=1)", -5007);
        lawFault("g(!!!!![1]=1)", -5007);
        lawFault("g(!!!!1=1&!!!!!1=1)", 1);
        lawFault("g(!!!!!1=1&[[[[[1]]]]]=1)", 1);
        lawFault("g(([[[[1]]]]=1)&(!([[1]]=[[1]])))", 1);
        lawFault("g(([[[[1]]]]=1)&(!([[[1]]]=1)))", -5021);
        lawFault("g([[[[[[1]]]]]]=1)", -5007);
        lawFault("e[[[[[[1]]]]]](((((([1]", -5020);
        lawFault("e[[[[[[1]]]]]]([[[[[1]]]]]=1)", 1);
        lawFault("e[[[[[[[1]]]]]]](1=1)", -5007);
        lawFault("g(((((((", -5007);
        lawFault("g(((((([", -5007);
        lawFault("g((((((!", -5007);
        lawFault("g((((((&", -1007);
        lawFault("g(1=[[[[[[", -5009);
    }
}
