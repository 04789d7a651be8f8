/** Promises 12 to 14 and 21: reserve, pay, average, trace. */
public final class RulesByWordsTest {
    public static void main(String[] args) {
        reserve();
        pay();
        payOfFewerBuyers();
        trace();
        average();
        Check.end();
    }

    private static void reserve() {
        DoubtSale x = new DoubtSale();
        Check.due("reserve(-1)", x.reserve(-1), -1);
        Check.due("reserve(1001)", x.reserve(1001), -1);
        Check.due("reserve(1000)", x.reserve(1000), 0);
        Check.due("reserve(1001)", x.reserve(1001), -1);
        Check.due("reserve(0)", x.reserve(0), 1000);
        Check.due("reserve(3)", x.reserve(3), 0);
        Check.due("count(1)", x.count(1), 3);
    }

    private static void pay() {
        DoubtSale x = new DoubtSale();
        x.buyers(3);
        x.reserve(50);
        int[][] due = {
            // kind, x, y, z, paid
            {0, 10, 30, 20, 20}, {0, 30, 30, 20, 30}, {0, 0, 0, 0, 0}, {0, 1000, 999, 1000, 1000},
            {1, 60, 30, 20, 50}, {1, 60, 55, 70, 60}, {1, 50, 0, 0, 50}, {1, 49, 49, 49, -9},
            {2, 60, 30, 20, 55}, {2, 60, 59, 70, 66}, {2, 0, 0, 50, 55}, {2, 0, 0, 49, -9},
            {2, 69, 70, 0, 75}, {2, 1000, 1000, 0, 1100},
        };
        for (int[] d : due) {
            Check.due("pay(" + d[0] + ", " + d[1] + ", " + d[2] + ", " + d[3] + ")", x.pay(d[0], d[1], d[2], d[3]), d[4]);
        }
        int[][] bad = {
            {-1, 1, 1, 1}, {3, 1, 1, 1}, {0, -1, 1, 1}, {0, 1, -1, 1}, {0, 1, 1, -1}, {1, 1001, 1, 1},
            {1, 1, 1001, 1}, {2, 1, 1, 1001},
        };
        for (int[] b : bad) {
            Check.due("pay(" + b[0] + ", " + b[1] + ", " + b[2] + ", " + b[3] + ")", x.pay(b[0], b[1], b[2], b[3]), -1);
        }
    }

    private static void payOfFewerBuyers() {
        DoubtSale x = new DoubtSale();
        Check.due("pay(0, 9, -1, 1001) of one buyer", x.pay(0, 9, -1, 1001), 0);
        x.buyers(2);
        Check.due("pay(0, 9, 5, 800) of two buyers", x.pay(0, 9, 5, 800), 5);
        Check.due("pay(0, 9, -1, 0) of two buyers", x.pay(0, 9, -1, 0), -1);
        x.reserve(10);
        Check.due("pay(1, 9, 5, 800) of two buyers", x.pay(1, 9, 5, 800), -9);
    }

    private static void trace() {
        DoubtSale x = new DoubtSale();
        x.reserve(5);
        x.pay(0, 1, 0, 0);
        Check.due("trace() of kind 0", x.trace(), 1);
        x.pay(1, 5, 0, 0);
        Check.due("trace() of kind 1", x.trace(), 12);
        x.pay(2, 5, 0, 0);
        Check.due("trace() of kind 2", x.trace(), 123);
        x.pay(1, 4, 0, 0);
        x.pay(2, 4, 0, 0);
        Check.due("trace() when no one gets it", x.trace(), 123);
        x.pay(2, 1001, 0, 0);
        x.pay(3, 9, 0, 0);
        Check.due("trace() after refusals", x.trace(), 123);
        x.average(0, 0);
        x.average(2, 1);
        x.brings(0);
        Check.due("trace() after means", x.trace(), 123);
        x.buyers(2);
        x.clear();
        Check.due("trace() stays", x.trace(), 123);
    }

    private static void average() {
        DoubtSale x = new DoubtSale();
        x.buyers(2);
        x.book(0, 10, 1);
        x.more(0, 20, 2);
        x.book(1, 15, 3);
        x.more(1, 40, 1);
        // Pairs by weights: 10, 15: 3; 10, 40: 1; 20, 15: 6; 20, 40: 2 (of 12).
        // SECOND pays 10, 10, 15, 20: 30 + 10 + 90 + 40 = 170.
        Check.due("average(0, 0)", x.average(0, 0), 85);
        Check.due("average(0, 1)", x.average(0, 1), 6);
        x.reserve(18);
        // RESERVED pays none, 18, 18, 20: 18 + 108 + 40 = 166.
        Check.due("average(1, 0)", x.average(1, 0), 83);
        Check.due("average(1, 1)", x.average(1, 1), 6);
        // FEED pays none, 19, 19, 22: 19 + 114 + 44 = 177.
        Check.due("average(2, 0)", x.average(2, 0), 59);
        Check.due("average(2, 1)", x.average(2, 1), 4);
        x.reserve(41);
        Check.due("average(1, 0) never", x.average(1, 0), 0);
        Check.due("average(1, 1) never", x.average(1, 1), 1);
        Check.due("average(0, 0) whatever the reserve is", x.average(0, 0), 85);
        Check.due("average(-1, 0)", x.average(-1, 0), DoubtSale.NO);
        Check.due("average(3, 0)", x.average(3, 0), DoubtSale.NO);
        Check.due("average(0, -1)", x.average(0, -1), DoubtSale.NO);
        Check.due("average(0, 2)", x.average(0, 2), DoubtSale.NO);
    }
}
