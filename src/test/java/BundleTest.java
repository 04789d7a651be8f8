/** Promise 16: bundle. */
public final class BundleTest {
    public static void main(String[] args) {
        DoubtSale x = new DoubtSale();
        x.buyers(3);
        // Sums 3 (6), 7 (2), 5 (3), 9 (1) of 12: 3 * 12 = 36, 5 * 6 = 30, 7 * 3 = 21, 9 * 1.
        x.book(0, 1, 2);
        x.more(0, 3, 1);
        x.book(1, 2, 3);
        x.more(1, 6, 1);
        x.book(2, 1, 2);
        x.more(2, 2, 2);
        all(x, 0, 1, 3, 12, 0);
        all(x, 1, 0, 3, 12, 0);
        // Sums 2 (4), 3 (4), 4 (2), 5 (2) of 12: 24, 24, 16, 10: of two the least; alone 1 and 1.
        all(x, 0, 2, 2, 12, 0);
        // Sums 3 (6), 4 (6), 7 (2), 8 (2) of 16: 48, 40, 28, 16.
        all(x, 2, 1, 3, 16, 0);
        bundleBringsMore();
        bundleBringsLess();
        leastSumWhereItIsNotSeenFirst();
        refusals(x);
        Check.end();
    }

    private static void all(DoubtSale x, int one, int other, int best, int pairs, int alone) {
        String call = "bundle(" + one + ", " + other + ", ";
        Check.due(call + "0)", x.bundle(one, other, 0), best);
        Check.due(call + "1)", x.bundle(one, other, 1), pairs);
        Check.due(call + "2)", x.bundle(one, other, 2), alone);
    }

    private static void bundleBringsMore() {
        DoubtSale x = new DoubtSale();
        x.buyers(2);
        for (int b = 0; b < 2; b++) {
            x.book(b, 2, 1);
            x.more(b, 3, 1);
        }
        // Alone 2 and 2 (4 and 3 of 2); sums 4 (1), 5 (2), 6 (1): 16, 15, 6: as much.
        all(x, 0, 1, 4, 4, 0);
        for (int b = 0; b < 2; b++) {
            x.book(b, 1, 1);
            x.more(b, 2, 1);
        }
        // Alone 1 and 1, 8 by 4; sums 2 (1), 3 (2), 4 (1): 8, 9, 4: more.
        all(x, 0, 1, 3, 3, 1);
    }

    private static void bundleBringsLess() {
        DoubtSale x = new DoubtSale();
        x.buyers(2);
        x.book(0, 0, 1);
        x.more(0, 10, 1);
        x.book(1, 0, 1);
        x.more(1, 10, 1);
        // Sums 0 (1), 10 (2), 20 (1): 0, 30, 20; alone 5 and 5, 40 by 4.
        all(x, 0, 1, 10, 3, -1);
    }

    private static void leastSumWhereItIsNotSeenFirst() {
        DoubtSale x = new DoubtSale();
        x.buyers(2);
        x.book(0, 0, 2);
        x.more(0, 1, 1);
        x.book(1, 0, 2);
        x.more(1, 3, 1);
        // Sums 0 (4), 3 (2), 1 (2), 4 (1) of 9: 0, 3 * 3 = 9, 1 * 5 = 5, 4.
        all(x, 0, 1, 3, 3, -1);
        x.book(0, 4, 7);
        x.more(0, 5, 5);
        x.book(1, 0, 3);
        x.more(1, 8, 3);
        // Sums 4 (21), 12 (21), 5 (15), 13 (15) of 72: 288, 12 * 36 = 432, 255, 195; alone 4 (48 of 12) and 4 (24 of 6): 576.
        all(x, 0, 1, 12, 36, -1);
        x.book(0, 1, 1);
        x.more(0, 3, 1);
        x.book(1, 0, 4);
        x.more(1, 3, 2);
        // Sums 1 (4), 4 (2), 3 (4), 6 (2) of 12: 12, 16, 24, 12; alone 3 and 6: 36 by 12.
        all(x, 0, 1, 3, 8, -1);
        x.book(0, 1, 1);
        x.more(0, 4, 1);
        x.book(1, 0, 1);
        x.more(1, 5, 1);
        // Sums 1, 6, 4, 9 of 4: 4, 12, 12, 9: 4 is the least, though 6 is seen before it; alone 4 and 5: 18.
        all(x, 0, 1, 4, 3, -1);
        x.book(0, 1000, 9);
        x.book(1, 1000, 9);
        all(x, 0, 1, 2000, 81, 0);
    }

    private static void refusals(DoubtSale x) {
        Check.due("bundle(0, 0, 0)", x.bundle(0, 0, 0), -5);
        Check.due("bundle(2, 2, 2)", x.bundle(2, 2, 2), -5);
        Check.due("bundle(-1, 0, 0)", x.bundle(-1, 0, 0), -5);
        Check.due("bundle(0, -1, 0)", x.bundle(0, -1, 0), -5);
        Check.due("bundle(3, 0, 0)", x.bundle(3, 0, 0), -5);
        Check.due("bundle(0, 3, 0)", x.bundle(0, 3, 0), -5);
        Check.due("bundle(0, 1, -1)", x.bundle(0, 1, -1), -5);
        Check.due("bundle(0, 1, 3)", x.bundle(0, 1, 3), -5);
        x.buyers(2);
        Check.due("bundle(0, 2, 0) of two buyers", x.bundle(0, 2, 0), -5);
        Check.due("bundle(0, 1, 0) of books as at first", x.bundle(0, 1, 0), 0);
        Check.due("bundle(0, 1, 1) of books as at first", x.bundle(0, 1, 1), 1);
        Check.due("bundle(0, 1, 2) of books as at first", x.bundle(0, 1, 2), 0);
    }
}
