/** Promise 15: offers. */
public final class OffersTest {
    public static void main(String[] args) {
        orders();
        none();
        leastOfEqualPrices();
        threeBuyers();
        Check.end();
    }

    private static void orders() {
        long no = DoubtSale.NO;
        int[][] good = {{}, {0}, {1, 3}, {5, 7, 11, 15, 19, 21}};
        for (int n = 1; n <= 3; n++) {
            DoubtSale x = new DoubtSale();
            x.buyers(n);
            int at = 0;
            for (int order = -3; order < 90; order++) {
                boolean isGood = at < good[n].length && good[n][at] == order;
                at += isGood ? 1 : 0;
                Check.due("offers(" + order + ", 0) of " + n, x.offers(order, 0), isGood ? 0 : no);
            }
            int told = good[n][0];
            Check.due("offers(order, -1) of " + n, x.offers(told, -1), no);
            Check.due("offers(order, 5) of " + n, x.offers(told, 5), no);
            Check.due("offers(order, 1) of " + n, x.offers(told, 1), 1);
            for (int b = 0; b < 3; b++) {
                Check.due("offers(order, " + (2 + b) + ") of " + n, x.offers(told, 2 + b), b < n ? 0 : no);
            }
            Check.due("offers(MAX, 0) of " + n, x.offers(Integer.MAX_VALUE, 0), no);
            Check.due("offers(MIN, 0) of " + n, x.offers(Integer.MIN_VALUE, 0), no);
            Check.due("offers(order, MIN) of " + n, x.offers(told, Integer.MIN_VALUE), no);
            Check.due("offers(order, MAX) of " + n, x.offers(told, Integer.MAX_VALUE), no);
        }
    }

    private static void none() {
        DoubtSale x = new DoubtSale();
        x.buyers(2);
        x.book(0, 3, 1);
        x.book(1, 10, 1);
        Check.due("offers(1, 2) none is better ahead of 10", x.offers(1, 2), 1001);
        Check.due("offers(1, 3)", x.offers(1, 3), 10);
        Check.due("offers(1, 0)", x.offers(1, 0), 10);
        Check.due("offers(3, 2) the last one is offered it", x.offers(3, 2), 3);
        Check.due("offers(3, 3)", x.offers(3, 3), 10);
        Check.due("offers(3, 0)", x.offers(3, 0), 10);
    }

    private static void leastOfEqualPrices() {
        DoubtSale x = new DoubtSale();
        x.buyers(2);
        x.book(0, 10, 1);
        x.book(1, 10, 1);
        Check.due("offers(1, 2) as much as none", x.offers(1, 2), 10);
        x.book(1, 5, 1);
        x.more(1, 10, 1);
        Check.due("offers(1, 3) 5 for sure or 10 by half", x.offers(1, 3), 5);
    }

    private static void threeBuyers() {
        DoubtSale x = new DoubtSale();
        x.buyers(3);
        x.book(0, 6, 2);
        x.more(0, 12, 1);
        x.book(1, 4, 1);
        x.more(1, 9, 3);
        x.book(2, 5, 1);
        x.more(2, 8, 1);
        // Order 0, 1, 2 (5): buyer 2 at 5: 5. Buyer 1 at 9: 27/4 + 5/4 = 8. Buyer 0 at 12: 4 + 16/3 = 28/3.
        Check.due("offers(5, 0)", x.offers(5, 0), 28);
        Check.due("offers(5, 1)", x.offers(5, 1), 3);
        Check.due("offers(5, 2)", x.offers(5, 2), 12);
        Check.due("offers(5, 3)", x.offers(5, 3), 9);
        Check.due("offers(5, 4)", x.offers(5, 4), 5);
        // Order 2, 0, 1 (19): buyer 1 at 9: 27/4. Buyer 0 at 12: 4 + 9/2 = 17/2. Buyer 2: none, 8 by half is less.
        Check.due("offers(19, 0)", x.offers(19, 0), 17);
        Check.due("offers(19, 1)", x.offers(19, 1), 2);
        Check.due("offers(19, 2)", x.offers(19, 2), 12);
        Check.due("offers(19, 3)", x.offers(19, 3), 9);
        Check.due("offers(19, 4)", x.offers(19, 4), 1001);
    }
}
