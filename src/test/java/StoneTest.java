/** Promises 21 to 26: stones on pans, seesaws, rows, false stones and scales. */
public final class StoneTest {
    public static void main(String[] args) {
        stones();
        fewest();
        seesaw();
        row();
        falseOne();
        scales();
        Due.end();
    }

    private static void upTo(int onePan, int both, int... weights) {
        RopeScale x = new RopeScale();
        Due.feed(x, weights);
        Due.is("on one pan", x.stones(weights.length, false), onePan);
        Due.is("used up", x.count(5), 0);
        Due.feed(x, weights);
        Due.is("on both pans", x.stones(weights.length, true), both);
        Due.is("used up", x.count(5), 0);
    }

    private static void stones() {
        upTo(1, 1, 1);
        upTo(0, 0, 2);
        upTo(1, 4, 1, 3);
        upTo(1, 40, 27, 1, 9, 3);
        upTo(7, 7, 4, 2, 1);
        upTo(255, 255, 128, 64, 32, 16, 8, 4, 2, 1);
        upTo(1, 1, 1, 4);
        upTo(0, 3, 2, 3);
        upTo(8, 8, 1, 1, 1, 1, 1, 1, 1, 1);
        upTo(-2, -2, 1, 0, 3);
        upTo(-2, -2, 0);
        upTo(0, 0, 255, 255, 255, 255, 255, 255, 255, 255);
        upTo(6, 123, 1, 3, 9, 27, 81, 255, 2, 255);
        RopeScale x = new RopeScale();
        Due.is("an empty tape", x.stones(1, true), -1);
        Due.feed(x, 1, 2, 3, 4, 5, 6, 7, 8, 9);
        Due.is("n 0", x.stones(0, true), -1);
        Due.is("n 9", x.stones(9, true), -1);
        Due.is("n -1", x.stones(-1, false), -1);
        Due.is("the tape stays", x.count(5), 20);
        Due.is("eight", x.stones(8, true), 36);
        Due.feed(x, 1);
        Due.is("nothing of those before", x.stones(1, false), 1);
    }

    private static void fewestIs(int due, int weight, int... weights) {
        RopeScale x = new RopeScale();
        Due.feed(x, weights);
        Due.is("fewest for " + weight, x.fewest(weights.length, weight), due);
        Due.is("used up", x.count(5), 0);
    }

    private static void fewest() {
        fewestIs(1, 5, 5);
        fewestIs(2, 1, 5, 6);
        fewestIs(-2, 4, 5);
        // No stone is used twice, on either pan.
        fewestIs(-2, 2, 3, 8);
        fewestIs(-2, 2, 8, 3);
        fewestIs(-2, 16, 8);
        fewestIs(-2, 16, 8, 3);
        fewestIs(3, 2, 3, 8, 3);
        fewestIs(2, 2, 1, 3, 9);
        fewestIs(3, 5, 1, 3, 9);
        fewestIs(2, 6, 1, 3, 9);
        fewestIs(1, 6, 1, 2, 3, 6);
        fewestIs(2, 6, 1, 2, 3, 9);
        fewestIs(8, 2040, 255, 255, 255, 255, 255, 255, 255, 255);
        fewestIs(7, 1785, 255, 255, 255, 255, 255, 255, 255, 255);
        fewestIs(-2, 2040, 255, 255, 255, 255, 255, 255, 255, 254);
        fewestIs(-3, 5, 5, 0);
        fewestIs(-3, 2040, 0);
        RopeScale x = new RopeScale();
        Due.is("an empty tape", x.fewest(1, 1), -1);
        Due.feed(x, 1, 2, 3, 4, 5, 6, 7, 8, 9);
        Due.is("n 0", x.fewest(0, 1), -1);
        Due.is("n 9", x.fewest(9, 1), -1);
        Due.is("weight 0", x.fewest(1, 0), -1);
        Due.is("weight 2041", x.fewest(1, 2041), -1);
        Due.is("weight -1", x.fewest(1, -1), -1);
        Due.is("the tape stays", x.count(5), 20);
        Due.is("the first alone", x.fewest(1, 2), -2);
    }

    private static void seesawIs(int due, int... weights) {
        RopeScale x = new RopeScale();
        Due.feed(x, weights);
        Due.is("seesaw of " + weights.length, x.seesaw(weights.length), due);
        Due.is("used up", x.count(5), 0);
    }

    private static void seesaw() {
        seesawIs(1, 1);
        seesawIs(255, 255);
        seesawIs(0, 7, 7);
        seesawIs(0, 10, 50);
        seesawIs(1, 10, 51);
        seesawIs(5, 1, 10);
        seesawIs(1, 7, 8);
        seesawIs(1, 8, 7);
        // Two at one place of one side would be more even.
        seesawIs(13, 241, 59, 100);
        seesawIs(8, 98, 53, 143);
        seesawIs(85, 149, 6, 8);
        seesawIs(14, 28, 202, 12);
        seesawIs(160, 10, 10, 250);
        seesawIs(0, 1, 1, 1, 1, 1);
        seesawIs(0, 255, 255, 255, 255, 255);
        seesawIs(255 - 14, 255, 1, 1, 1, 1);
        seesawIs(-2, 0);
        seesawIs(-2, 1, 2, 3, 4, 0);
        RopeScale x = new RopeScale();
        Due.is("an empty tape", x.seesaw(1), -1);
        Due.feed(x, 1, 2, 3, 4, 5, 6);
        Due.is("n 0", x.seesaw(0), -1);
        Due.is("n 6", x.seesaw(6), -1);
        Due.is("the tape stays", x.count(5), 20);
        Due.is("five", x.seesaw(5), 0);
    }

    private static void rowIs(int go, int sideBySide, int... weights) {
        RopeScale x = new RopeScale();
        Due.feed(x, weights);
        Due.is("who must go", x.row(weights.length, 0), go);
        Due.feed(x, weights);
        Due.is("side by side", x.row(weights.length, 1), sideBySide);
        Due.is("used up", x.count(5), 0);
    }

    private static void row() {
        rowIs(0, 1, 0);
        rowIs(0, 3, 1, 2, 3);
        rowIs(0, 3, 5, 5, 5);
        rowIs(2, 1, 3, 2, 1);
        rowIs(2, 2, 5, 1, 4, 2, 3);
        rowIs(1, 4, 9, 0, 1, 2, 255);
        rowIs(2, 3, 1, 9, 2, 8, 3, 7, 9);
        rowIs(0, 16, 0, 0, 1, 1, 2, 2, 3, 3, 4, 4, 5, 5, 6, 6, 255, 255);
        rowIs(15, 1, 15, 14, 13, 12, 11, 10, 9, 8, 7, 6, 5, 4, 3, 2, 1, 0);
        RopeScale x = new RopeScale();
        Due.is("an empty tape", x.row(1, 0), -1);
        Due.feed(x, 3, 2, 1);
        Due.is("n 0", x.row(0, 0), -1);
        Due.is("n 17", x.row(17, 0), -1);
        Due.is("what 2", x.row(3, 2), -1);
        Due.is("what -1", x.row(3, -1), -1);
        Due.is("the tape stays", x.count(5), 20);
        Due.is("two must go", x.row(3, 0), 2);
    }

    private static void falseOne() {
        RopeScale x = new RopeScale();
        int[][] heavy = {{1, 0}, {2, 1}, {3, 1}, {4, 2}, {9, 2}, {10, 3}, {27, 3}, {28, 4}, {6561, 8}, {6562, 9}, {9999, 9}};
        for (int[] one : heavy) {
            Due.is("heavy of " + one[0], x.falseOne(one[0], true), one[1]);
        }
        int[][] either = {{1, -2}, {2, -2}, {3, 2}, {4, 3}, {12, 3}, {13, 4}, {39, 4}, {40, 5}, {120, 5}, {121, 6},
            {9840, 9}, {9841, 10}, {9999, 10}};
        for (int[] one : either) {
            Due.is("heavy or light of " + one[0], x.falseOne(one[0], false), one[1]);
        }
        Due.is("0", x.falseOne(0, true), -1);
        Due.is("10000", x.falseOne(10000, false), -1);
        Due.is("-5", x.falseOne(-5, false), -1);
    }

    private static void scalesAre(int times, int most, int sides, int... weights) {
        RopeScale x = new RopeScale();
        Due.feed(x, weights);
        Due.is("times", x.scales(weights.length, sides, 0), times);
        Due.feed(x, weights);
        Due.is("most", x.scales(weights.length, sides, 1), most);
        Due.is("used up", x.count(5), 0);
    }

    private static void scales() {
        scalesAre(1, 5, 1, 5);
        scalesAre(0, 0, 0, 5);
        scalesAre(0, 0, 1, 0);
        scalesAre(2, 5, 1, 5, 3);
        scalesAre(1, 5, 1, 5, 5);
        scalesAre(1, 2, 2, 3, 5);
        scalesAre(1, 7, 0b1001, 7, 9, 3, 4);
        scalesAre(10, 2550, 1023, 255, 255, 255, 255, 255, 255, 255, 255, 255, 255);
        scalesAre(0, 0, 1022, 1);
        RopeScale x = new RopeScale();
        Due.is("an empty tape", x.scales(1, 0, 0), -1);
        Due.feed(x, 1, 2, 3);
        Due.is("n 0", x.scales(0, 0, 0), -1);
        Due.is("n 11", x.scales(11, 0, 0), -1);
        Due.is("sides -1", x.scales(3, -1, 0), -1);
        Due.is("sides 1024", x.scales(3, 1024, 0), -1);
        Due.is("what 2", x.scales(3, 7, 2), -1);
        Due.is("what -1", x.scales(3, 7, -1), -1);
        Due.is("the tape stays", x.count(5), 20);
        Due.is("all on the left", x.scales(3, 7, 1), 6);
    }
}
