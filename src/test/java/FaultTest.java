import java.util.Map;

/**
 * Promises 5 to 7: each FAULT with its number and its place; at each place of a text, of all 256 bytes, which can stand
 * there.
 */
public final class FaultTest {
    private static final String WALKERS = "abcdefghijklmnop";
    private static final String DIGITS = "0123456789";
    private static final String KINDS = "grfebwl";
    private static final String FACTOR = DIGITS + "pvcondht[";
    private static final String BETWEEN = "+-*/%";
    private static final String TEST = FACTOR + "(!";
    private static final Map<Character, Integer> NO_MORE = Map.of();

    private interface Reader {
        int read(String text);
    }

    private static final Reader ORDERS = text -> Due.orders(sixteen(), text);
    private static final Reader WEIGHINGS = text -> Due.weighings(new RopeScale(), text);
    private static final Reader LAW = text -> Due.law(new RopeScale(), text);

    public static void main(String[] args) {
        bytesOfOrders();
        bytesOfWeighings();
        bytesOfRules();
        bytesOfE();
        bytesOfC();
        blanks();
        digits();
        zeros();
        tooManyLines();
        depth();
        twice();
        notTold();
        theFirstFromTheLeft();
        theEnd();
        Due.end();
    }

    private static RopeScale sixteen() {
        return Due.walkers(1, 2, 3, 4, 5, 6, 7, 8, 9, 10, 11, 12, 13, 14, 15, 16);
    }

    /**
     * Behind this beginning, the bytes of canStand leave the text without an end, those of whole make it whole, some
     * have an answer of their own, and all others can't stand there.
     */
    private static void behind(Reader reader, String begun, String canStand, String whole,
            Map<Character, Integer> own) {
        int lines = 1;
        for (int k = 0; k < begun.length(); k++) {
            lines += begun.charAt(k) == ';' ? 1 : 0;
        }
        int place = begun.length();
        for (int b = 0; b < 256; b++) {
            char sign = (char) b;
            int due = -1000 - place;
            if (own.containsKey(sign)) {
                due = own.get(sign);
            } else if (whole.indexOf(sign) >= 0) {
                due = lines;
            } else if (canStand.indexOf(sign) >= 0) {
                due = -1001 - place;
            }
            Due.is(begun + " and byte " + b, reader.read(begun + sign), due);
        }
        if (place > 0) {
            int due = reader.read(begun);
            Due.is(begun + " ends here", due > 0 || due == -1000 - place, true);
        }
    }

    private static void bytesOfOrders() {
        behind(ORDERS, "", WALKERS, "", NO_MORE);
        behind(ORDERS, "a", "=?+-", "<>", NO_MORE);
        behind(ORDERS, "p=", "", "123456789", Map.of('0', -3002));
        behind(ORDERS, "p?", "", "123456789", Map.of('0', -3002));
        behind(ORDERS, "p+", "", DIGITS, NO_MORE);
        behind(ORDERS, "p-", "", DIGITS, NO_MORE);
        behind(ORDERS, "a=1", ";", DIGITS, NO_MORE);
        behind(ORDERS, "a-12", ";", DIGITS, NO_MORE);
        Map<Character, Integer> fourth = Map.of('0', -2005, '1', -2005, '2', -2005, '3', -2005, '4', -2005,
            '5', -2005, '6', -2005, '7', -2005, '8', -2005, '9', -2005);
        behind(ORDERS, "a?123", ";", "", fourth);
        behind(ORDERS, "a>", ";", "", NO_MORE);
        behind(ORDERS, "a<", ";", "", NO_MORE);
        behind(ORDERS, "a<;", WALKERS, "", NO_MORE);
        behind(ORDERS, "a<;b", "=?+-", "<>", NO_MORE);
    }

    private static void bytesOfWeighings() {
        behind(WEIGHINGS, "", WALKERS, "", NO_MORE);
        behind(WEIGHINGS, "a", "bcdefghijklmnop<>=", "", Map.of('a', -6001));
        behind(WEIGHINGS, "ap", "bcdefghijklmno<>=", "", Map.of('a', -6002, 'p', -6002));
        behind(WEIGHINGS, "a<", "", "bcdefghijklmnop", Map.of('a', -6002));
        behind(WEIGHINGS, "a>", "", "bcdefghijklmnop", Map.of('a', -6002));
        behind(WEIGHINGS, "p=", "", "abcdefghijklmno", Map.of('p', -6002));
        behind(WEIGHINGS, "a<b", ";", "cdefghijklmnop", Map.of('a', -6003, 'b', -6003));
        behind(WEIGHINGS, "a<b;", WALKERS, "", NO_MORE);
        behind(WEIGHINGS, "a<b;a", "bcdefghijklmnop<>=", "", Map.of('a', -6005));
        behind(WEIGHINGS, "a<b;c<", "", "abdefghijklmnop", Map.of('c', -6006));
    }

    private static void bytesOfRules() {
        behind(LAW, "", KINDS, "", NO_MORE);
        behind(LAW, "g", "(", "", NO_MORE);
        behind(LAW, "r", "(", "", NO_MORE);
        for (char kind : "febwl".toCharArray()) {
            behind(LAW, String.valueOf(kind), FACTOR, "", NO_MORE);
        }
        behind(LAW, "g(1=1)", ";", "", NO_MORE);
        behind(LAW, "g(1=1);", KINDS, "", NO_MORE);
        behind(LAW, "g(1=1);r", "(", "", NO_MORE);
        behind(LAW, "g(1=1);r(1=1", DIGITS + BETWEEN + "&|", ")", NO_MORE);
    }

    private static void bytesOfE() {
        behind(LAW, "e1", DIGITS + BETWEEN + "(", "", NO_MORE);
        behind(LAW, "e1234", DIGITS + BETWEEN + "(", "", NO_MORE);
        Map<Character, Integer> sixth = Map.of('0', -2006, '1', -2006, '2', -2006, '3', -2006, '4', -2006,
            '5', -2006, '6', -2006, '7', -2006, '8', -2006, '9', -2006);
        behind(LAW, "e12345", BETWEEN + "(", "", sixth);
        for (char letter : "pvcondht".toCharArray()) {
            behind(LAW, "e" + letter, BETWEEN + "(", "", NO_MORE);
        }
        for (char sign : BETWEEN.toCharArray()) {
            behind(LAW, "e1" + sign, FACTOR, "", NO_MORE);
        }
        behind(LAW, "e[", FACTOR, "", NO_MORE);
        behind(LAW, "e[1", DIGITS + BETWEEN + "]", "", NO_MORE);
        behind(LAW, "e[p", BETWEEN + "]", "", NO_MORE);
        behind(LAW, "e[p]", BETWEEN + "(", "", NO_MORE);
        behind(LAW, "e[[p]", BETWEEN + "]", "", NO_MORE);
    }

    private static void bytesOfC() {
        behind(LAW, "g(", TEST, "", NO_MORE);
        behind(LAW, "e1(", TEST, "", NO_MORE);
        behind(LAW, "g(!", TEST, "", NO_MORE);
        behind(LAW, "g((", TEST, "", NO_MORE);
        behind(LAW, "g(1=1&", TEST, "", NO_MORE);
        behind(LAW, "g(1=1|", TEST, "", NO_MORE);
        behind(LAW, "g([", FACTOR, "", NO_MORE);
        behind(LAW, "g(p", BETWEEN + "<>=", "", NO_MORE);
        behind(LAW, "g(7", DIGITS + BETWEEN + "<>=", "", NO_MORE);
        behind(LAW, "g([p", BETWEEN + "]", "", NO_MORE);
        behind(LAW, "g([p]", BETWEEN + "<>=", "", NO_MORE);
        for (char sign : "<>=".toCharArray()) {
            behind(LAW, "g(p" + sign, FACTOR, "", NO_MORE);
        }
        behind(LAW, "g(p=v", BETWEEN + "&|", ")", NO_MORE);
        behind(LAW, "g(!p=v", BETWEEN + "&|", ")", NO_MORE);
        behind(LAW, "g(p=[v", BETWEEN + "]", "", NO_MORE);
        behind(LAW, "g((p=v", BETWEEN + "&|)", "", NO_MORE);
        behind(LAW, "g((p=v)", "&|", ")", NO_MORE);
        behind(LAW, "g(!(p=v)", "&|", ")", NO_MORE);
    }

    private static void blanks() {
        String[] orders = {" a=5", "a =5", "a= 5", "a=5 ", "a=5; b=5", "a=5 5"};
        int[] places = {0, 1, 2, 3, 4, 3};
        for (int k = 0; k < orders.length; k++) {
            Due.is("a blank in " + orders[k], ORDERS.read(orders[k]), -1000 - places[k]);
        }
        String[] weighings = {" a<b", "a <b", "a< b", "a<b ", "a<b; a<b"};
        for (int k = 0; k < weighings.length; k++) {
            Due.is("a blank in " + weighings[k], WEIGHINGS.read(weighings[k]), -1000 - places[k]);
        }
        String[] laws = {" g(1=1)", "g (1=1)", "g( 1=1)", "g(1 =1)", "g(1= 1)", "g(1=1 )", "g(1=1) "};
        for (int k = 0; k < laws.length; k++) {
            Due.is("a blank in " + laws[k], LAW.read(laws[k]), -1000 - k);
        }
    }

    private static void digits() {
        for (char deed : "=?+-".toCharArray()) {
            Due.is("three digits behind " + deed, ORDERS.read("a" + deed + "001"), 1);
            Due.is("a fourth digit behind " + deed, ORDERS.read("a" + deed + "0010"), -2005);
            Due.is("a fifth one behind " + deed, ORDERS.read("b>;a" + deed + "00101"), -2008);
            Due.is("of a number that is not 0 behind " + deed, ORDERS.read("a" + deed + "0001"), -2005);
        }
        Due.is("five digits", LAW.read("e00001(00001=12345)"), 1);
        Due.is("a sixth digit in E", LAW.read("e000012(1=1)"), -2006);
        Due.is("a sixth digit in C", LAW.read("e1(000000=1)"), -2008);
        Due.is("a sixth digit on the right", LAW.read("e1(1=99999+999999)"), -2016);
        Due.is("a sixth digit in brackets", LAW.read("e[12345+[123456]]"), -2014);
    }

    private static void zeros() {
        for (char deed : "=?".toCharArray()) {
            String begun = "a" + deed;
            Due.is("0 at the end", ORDERS.read(begun + "0"), -3002);
            Due.is("00 at the end", ORDERS.read(begun + "00"), -3002);
            Due.is("000 at the end", ORDERS.read(begun + "000"), -3002);
            Due.is("0 at the end of its line", ORDERS.read(begun + "0;b>"), -3002);
            Due.is("000 ahead of what can't stand there", ORDERS.read(begun + "000x"), -3002);
            Due.is("0 ahead of what can't stand there", ORDERS.read(begun + "0x"), -3002);
            Due.is("0 that does not end ahead of a fourth digit", ORDERS.read(begun + "0000"), -2005);
            Due.is("0 that goes on", ORDERS.read(begun + "01"), 1);
            Due.is("00 that goes on", ORDERS.read(begun + "001"), 1);
            Due.is("in a later line", ORDERS.read("b+0;c-000;" + begun + "00"), -3012);
        }
        Due.is("0 more, 0 less", ORDERS.read("a+0;a-0;a+00;a-000"), 4);
    }

    private static void tooManyLines() {
        String twenty = Due.times(20, "b<");
        Due.is("20 lines", ORDERS.read(twenty), 20);
        Due.is("a 21st line", ORDERS.read(twenty + ";b<"), -4060);
        Due.is("a 21st line of a letter", ORDERS.read(twenty + ";p"), -4060);
        Due.is("a 21st line that can't begin so", ORDERS.read(twenty + ";q<"), -1060);
        Due.is("a 21st line that has no letter", ORDERS.read(twenty + ";"), -1060);
        Due.is("a 21st line of one who is not told", Due.orders(Due.walkers(1, 2), twenty + ";c"), -4060);
        String sixteen = Due.times(16, "a<b");
        Due.is("16 weighings", WEIGHINGS.read(sixteen), 16);
        Due.is("a 17th weighing", WEIGHINGS.read(sixteen + ";a<b"), -4064);
        Due.is("a 17th weighing of a letter", WEIGHINGS.read(sixteen + ";p"), -4064);
        Due.is("a 17th weighing that can't begin so", WEIGHINGS.read(sixteen + ";<b"), -1064);
        Due.is("a 17th weighing that has no letter", WEIGHINGS.read(sixteen + ";"), -1064);
        for (char kind : KINDS.toCharArray()) {
            String rule = "gr".indexOf(kind) >= 0 ? kind + "(1=1)" : kind + "1(1=1)";
            String rules = Due.times(16, rule);
            Due.is("16 rules of " + kind, LAW.read(rules), 16);
            Due.is("a 17th rule of " + kind, LAW.read(rules + ";" + rule), -4001 - rules.length());
            Due.is("a 17th rule of its letter " + kind, LAW.read(rules + ";" + kind), -4001 - rules.length());
        }
        String rules = Due.times(16, "g(1=1)");
        Due.is("a 17th rule that can't begin so", LAW.read(rules + ";p(1=1)"), -1112);
        Due.is("a 17th rule that has no letter", LAW.read(rules + ";"), -1112);
    }

    private static void depth() {
        String[] six = {"(", "[", "!"};
        for (String open : six) {
            String five = open.repeat(5);
            String shut = open.equals("!") ? "" : (open.equals("(") ? ")" : "]").repeat(5);
            boolean isE = open.equals("[");
            String whole = isE ? five + "1" + shut + "=1" : five + "1=1" + shut;
            Due.is("six open, of " + open, LAW.read("g(" + whole + ")"), 1);
            for (String seventh : six) {
                boolean canStand = !isE || seventh.equals("[");
                int due = canStand ? -5007 : -1007;
                Due.is("a seventh " + seventh + " in " + open, LAW.read("g(" + five + seventh), due);
            }
        }
        Due.is("six open in E", LAW.read("w[[[[[[1]]]]]](1=1)"), 1);
        Due.is("a seventh in E", LAW.read("w[[[[[[["), -5007);
        Due.is("a ( in E", LAW.read("w[[[[[[("), -1007);
        Due.is("E is ahead of the ( of the rule", LAW.read("w[[[[[[1]]]]]]([[[[[1]]]]]=1)"), 1);
        Due.is("they are shut again", LAW.read("w1((((((1=1)))))&(((((1=1)))))&[[[[[1]]]]]=[[[[[1]]]]])"), 1);
        Due.is("a ! is open till its TEST ends", LAW.read("g(!!!!(1=1)&!!!!!1=1|!!!!!1=1)"), 1);
        Due.is("a ! is open in its TEST on the right, too", LAW.read("g(!!!!!1=[1])"), -5009);
        Due.is("a ! is open in its ( )", LAW.read("g(!(!(!1=[1]"), -5009);
        Due.is("a ! in that ( ) has ended", LAW.read("g(!(!(!1=1&[1]=1)))"), 1);
        Due.is("a ! in that ( ) is the sixth", LAW.read("g(!(!(1=1&!1=1)))"), 1);
        Due.is("and the [ in it the seventh", LAW.read("g(!(!(1=1&!1=[1])))"), -5013);
        Due.is("in a later rule", LAW.read("g(1=1);g(!!!!!!1=1)"), -5014);
    }

    private static void twice() {
        Due.is("all sixteen, once", WEIGHINGS.read("abcdefgh<ijklmnop"), 1);
        Due.is("fifteen on one side", WEIGHINGS.read("a=bcdefghijklmnop"), 1);
        for (int k = 0; k < 16; k++) {
            String again = WALKERS.substring(k, k + 1);
            Due.is(again + " again on the left", WEIGHINGS.read(WALKERS + again), -6016);
            Due.is(again + " again on the right", WEIGHINGS.read("abcdefgh>ijklmnop" + again), -6017);
        }
        Due.is("sixteen on one side leave none", WEIGHINGS.read(WALKERS + "=a"), -6017);
        Due.is("again in another line", WEIGHINGS.read("ab<c;ab>c;ab=c"), 3);
    }

    private static void notTold() {
        RopeScale x = new RopeScale();
        for (int p = 0; p < 16; p++) {
            String line = WALKERS.charAt(p) + "=5";
            Due.is("not told, " + p, Due.orders(x, line), -7000);
            x.walker(p, 1);
            Due.is("told, " + p, Due.orders(x, line), 1);
        }
        Due.is("behind the 20th line it is the 21st", Due.orders(Due.walkers(5), Due.times(20, "a>") + ";b>"), -4060);
        Due.is("the 20th line of one who is not told", Due.orders(Due.walkers(5), Due.times(19, "a>") + ";b>"), -7057);
        Due.is("weighings of those who are not told", WEIGHINGS.read("a<p"), 1);
    }

    private static void theFirstFromTheLeft() {
        RopeScale x = Due.walkers(5, 6);
        Due.is("7 ahead of 1", Due.orders(x, "c*"), -7000);
        Due.is("7 ahead of 3", Due.orders(x, "c=0"), -7000);
        Due.is("3 ahead of 7", Due.orders(x, "a=0;c=1"), -3002);
        Due.is("1 ahead of 7", Due.orders(x, "a*;c=1"), -1001);
        Due.is("2 ahead of 3", Due.orders(x, "a=1111;a=0"), -2005);
        Due.is("3 ahead of 2", Due.orders(x, "a=0;a=1111"), -3002);
        Due.is("6 ahead of 1", WEIGHINGS.read("aa*"), -6001);
        Due.is("1 ahead of 6", WEIGHINGS.read("a*a"), -1001);
        Due.is("6 ahead of 4", WEIGHINGS.read(Due.times(15, "a<b") + ";a<a;a"), -6062);
        Due.is("2 ahead of 5", LAW.read("e123456+[[[[[[["), -2006);
        Due.is("5 ahead of 2", LAW.read("e[[[[[[[123456"), -5007);
        Due.is("1 ahead of 5", LAW.read("e]+[[[[[[["), -1001);
        Due.is("5 ahead of 4", LAW.read(Due.times(15, "g(1=1)") + ";g(((((((;g"), -5112);
    }

    private static void theEnd() {
        StringBuilder law = new StringBuilder("e1(1=1");
        while (law.length() < 239) {
            law.append("+1");
        }
        law.setLength(239);
        law.setCharAt(238, '1');
        Due.is("239 bytes without an end", LAW.read(law.toString()), -1239);
        Due.is("240 bytes with it", LAW.read(law + ")"), 1);
        Due.is("240 bytes without an end", LAW.read(law + "+"), -1240);
        String lines = Due.times(19, "a=100") + ";a=99";
        Due.is("118 bytes of orders", ORDERS.read(lines), 20);
        Due.is("119 bytes", ORDERS.read(lines + "9"), 20);
        Due.is("120 bytes with a fourth digit", ORDERS.read(lines + "99"), -2119);
        Due.is("120 bytes without an end", ORDERS.read(lines + "9;"), -1120);
        String side = "abcdefgh=ijklmnop";
        String six = Due.times(6, side);
        Due.is("120 bytes of weighings", WEIGHINGS.read(six + ";abcdef=ghijk"), 7);
        Due.is("120 bytes, a letter twice", WEIGHINGS.read(six + ";abcdef=ghija"), -6119);
        Due.is("120 bytes without an end", WEIGHINGS.read(six + ";abcdefghijk="), -1120);
    }
}
