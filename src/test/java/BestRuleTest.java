/** Promises 8 to 11: gets, pays, gain, brings. */
public final class BestRuleTest {
    public static void main(String[] args) {
        getsAndPays();
        noOneGetsIt();
        ironingDecides();
        refusals();
        gains();
        Check.end();
    }

    private static DoubtSale threeBuyers() {
        DoubtSale x = new DoubtSale();
        x.buyers(3);
        // Shares 2, 1; takes 8, 10: slopes -2 and 10.
        x.book(0, 4, 1);
        x.more(0, 10, 1);
        // Shares 3, 1; takes 18, 10: slopes 4 and 10.
        x.book(1, 6, 2);
        x.more(1, 10, 1);
        // Slope 4.
        x.book(2, 4, 3);
        return x;
    }

    private static void getsAndPays() {
        DoubtSale x = threeBuyers();
        Check.due("gets(1, 1, 0) the least of two", x.gets(1, 1, 0), 0);
        Check.due("pays(1, 1, 0, 0)", x.pays(1, 1, 0, 0), 10);
        Check.due("pays(1, 1, 0, 1) others pay nothing", x.pays(1, 1, 0, 1), 0);
        Check.due("gets(0, 0, 0) slopes -2, 4, 4", x.gets(0, 0, 0), 1);
        Check.due("pays(0, 0, 0, 1)", x.pays(0, 0, 0, 1), 6);
        Check.due("gets(0, 1, 0)", x.gets(0, 1, 0), 1);
        Check.due("pays(0, 1, 0, 1) the least that would do", x.pays(0, 1, 0, 1), 6);
        Check.due("pays(0, 1, 0, 2)", x.pays(0, 1, 0, 2), 0);
        // 6 pairs of the first two: buyer 0's 10 wins 3 of them and pays 10; else buyer 1 pays 6 in 3.
        Check.due("brings(0)", x.brings(0), 8);
        Check.due("brings(1)", x.brings(1), 1);
    }

    private static void noOneGetsIt() {
        DoubtSale x = new DoubtSale();
        x.buyers(3);
        for (int b = 0; b < 3; b++) {
            // Shares 2, 1; takes 10, 10 (slope 0) with worths 5 and 10.
            x.book(b, 5, 1);
            x.more(b, 10, 1);
        }
        Check.due("gets(0, 0, 0) none above 0", x.gets(0, 0, 0), -9);
        for (int b = 0; b < 3; b++) {
            Check.due("pays(0, 0, 0, " + b + ")", x.pays(0, 0, 0, b), 0);
        }
        Check.due("gets(0, 0, 1)", x.gets(0, 0, 1), 2);
        Check.due("pays(0, 0, 1, 2)", x.pays(0, 0, 1, 2), 10);
        // Only if all three are low, one time in 8, nothing is paid.
        Check.due("brings(0)", x.brings(0), 35);
        Check.due("brings(1)", x.brings(1), 4);
        Check.due("gain(1, 0, 0, 0, 0) low words get nothing", x.gain(1, 0, 0, 0, 0), 0);
    }

    private static void ironingDecides() {
        DoubtSale x = new DoubtSale();
        x.buyers(2);
        // Shares 10, 6, 5, 3, 1; ironed -8, -8, 5/2, 5/2, 40, where plain slopes are 17/2 and -7/2 in the midst.
        x.book(0, 1, 4);
        x.more(0, 2, 1);
        x.more(0, 10, 2);
        x.more(0, 11, 2);
        x.more(0, 40, 1);
        x.book(1, 3, 1);
        Check.due("gets(2, 0, 0) 5/2 against 3", x.gets(2, 0, 0), 1);
        Check.due("gets(4, 0, 0)", x.gets(4, 0, 0), 0);
        Check.due("pays(4, 0, 0, 0)", x.pays(4, 0, 0, 0), 40);
        x.book(1, 2, 1);
        Check.due("gets(2, 0, 0) 5/2 against 2", x.gets(2, 0, 0), 0);
        Check.due("gets(3, 0, 0)", x.gets(3, 0, 0), 0);
        Check.due("pays(3, 0, 0, 0)", x.pays(3, 0, 0, 0), 10);
        Check.due("pays(4, 0, 0, 0)", x.pays(4, 0, 0, 0), 10);
        // 10 by half, 2 by the other half.
        Check.due("brings(0)", x.brings(0), 6);
        Check.due("brings(1)", x.brings(1), 1);
    }

    private static void refusals() {
        DoubtSale x = new DoubtSale();
        long no = DoubtSale.NO;
        x.buyers(2);
        x.book(1, 2, 1);
        x.more(1, 3, 1);
        Check.due("gets(1, 0, 0)", x.gets(1, 0, 0), -1);
        Check.due("gets(-1, 0, 0)", x.gets(-1, 0, 0), -1);
        Check.due("gets(0, 2, 0)", x.gets(0, 2, 0), -1);
        Check.due("gets(0, -1, 0)", x.gets(0, -1, 0), -1);
        Check.due("gets(0, 1, -7) others are not looked at", x.gets(0, 1, -7), 1);
        Check.due("pays(0, 1, 99, 1)", x.pays(0, 1, 99, 1), 2);
        Check.due("pays(0, 2, 0, 1)", x.pays(0, 2, 0, 1), -1);
        Check.due("pays(0, 1, 0, 2)", x.pays(0, 1, 0, 2), -1);
        Check.due("pays(0, 1, 0, -1)", x.pays(0, 1, 0, -1), -1);
        Check.due("gain(0, 1, 9, 1, 1)", x.gain(0, 1, 9, 1, 1), 1);
        Check.due("gain(0, 2, 0, 1, 0)", x.gain(0, 2, 0, 1, 0), no);
        Check.due("gain(0, 1, 0, 1, 2)", x.gain(0, 1, 0, 1, 2), no);
        Check.due("gain(0, 1, 0, 1, -1)", x.gain(0, 1, 0, 1, -1), no);
        Check.due("gain(0, 1, 0, 0, 1) not a place of the own book", x.gain(0, 1, 0, 0, 1), no);
        Check.due("gain(0, 1, 0, 2, 0)", x.gain(0, 1, 0, 2, 0), no);
        Check.due("gain(0, 1, 0, -1, 0)", x.gain(0, 1, 0, -1, 0), no);
        Check.due("brings(-1)", x.brings(-1), no);
        Check.due("brings(2)", x.brings(2), no);
    }

    private static void gains() {
        DoubtSale x = threeBuyers();
        Check.due("gain(0, 0, 0, 0, 1) more told than is so", x.gain(0, 0, 0, 0, 1), -6);
        Check.due("gain(0, 0, 0, 1, 0)", x.gain(0, 0, 0, 1, 0), 0);
        Check.due("gain(0, 1, 0, 1, 1)", x.gain(0, 1, 0, 1, 1), 4);
        Check.due("gain(0, 1, 0, 1, 0) told less and still got", x.gain(0, 1, 0, 1, 0), 4);
        Check.due("gain(1, 0, 0, 0, 0) told less and lost", x.gain(1, 0, 0, 0, 0), 0);
        Check.due("gain(1, 0, 0, 2, 0)", x.gain(1, 0, 0, 2, 0), 0);
    }
}
