/** Promises 15 to 20, "OFFERS", sentence by sentence, at the edges; what is refused is RefusedTest's, orders OffersTest's. */
public final class EdgesOfOffersTest {
    private static final int[] ALL_ORDERS = {5, 7, 11, 15, 19, 21};

    public static void main(String[] args) {
        takesItIfItsWorthIsThatPrice();
        aWorthOfTheOwnBookOrNone();
        ofSeveralPricesTheLeast();
        noneBringsAsMuchAsItsPrice();
        firstDigitIsTheHighest();
        noneAheadHadTakenIt();
        meanInLeastForm();
        greatestOffers();
        aBuyerThatIsNotThere();
        sumsOfTheSameSize();
        bundleOfSeveralTheLeast();
        aloneMoreAsMuchLess();
        bundleOfNothing();
        samplesAreCounted();
        learntOfSeveralTheLeast();
        learntIsThatOrMore();
        clearAndBegin();
        Check.end();
    }

    private static DoubtSale of(int[]... books) {
        DoubtSale x = new DoubtSale();
        x.buyers(books.length);
        for (int b = 0; b < books.length; b++) {
            x.book(b, books[b][0], books[b][1]);
            for (int i = 2; i < books[b].length; i += 2) {
                x.more(b, books[b][i], books[b][i + 1]);
            }
        }
        return x;
    }

    private static int[] b(int... worthsAndWeights) {
        return worthsAndWeights;
    }

    private static void offers(String name, DoubtSale x, int order, long... due) {
        for (int what = 0; what < due.length; what++) {
            Check.due(name + ": offers(" + order + ", " + what + ")", x.offers(order, what), due[what]);
        }
    }

    private static void bundle(String name, DoubtSale x, int best, int pairs, int alone) {
        int[] due = {best, pairs, alone};
        for (int what = 0; what < 3; what++) {
            Check.due(name + ": bundle(0, 1, " + what + ")", x.bundle(0, 1, what), due[what]);
            Check.due(name + ": bundle(1, 0, " + what + ")", x.bundle(1, 0, what), due[what]);
        }
    }

    /** "takes it, if its worth is that price at least". */
    private static void takesItIfItsWorthIsThatPrice() {
        offers("one worth", of(b(10, 9)), 0, 10, 1, 10);
        offers("the greater of two, its own worth", of(b(1, 1, 10, 1)), 0, 5, 1, 10);
        offers("the lesser of two, both take it", of(b(9, 1, 10, 1)), 0, 9, 1, 9);
    }

    /** "each a worth of the buyer's own BOOK or none (1001)": no price between worths, though it would bring more. */
    private static void aWorthOfTheOwnBookOrNone() {
        // Ahead of 6 for sure: 5 by all is less, 7 by 1 of 10 is more.
        offers("a rare worth above", of(b(5, 9, 7, 1), b(6, 1)), 1, 61, 10, 7, 6);
        offers("each worth below", of(b(4, 9, 5, 1), b(6, 1)), 1, 6, 1, 1001, 6);
        offers("worths of 0", of(b(0, 1), b(6, 1)), 1, 6, 1, 1001, 6);
        offers("two ahead of 6", of(b(4, 1), b(5, 1), b(6, 1)), 5, 6, 1, 1001, 1001, 6);
        offers("two ahead of 1000", of(b(999, 1), b(0, 1), b(1000, 1)), 5, 1000, 1, 1001, 1001, 1000);
        // The greatest worth is no none.
        offers("1000", of(b(1000, 1)), 0, 1000, 1, 1000);
    }

    /** "of several prices the least": of two, of all five, for a buyer that is not the last as well. */
    private static void ofSeveralPricesTheLeast() {
        offers("10 or 20 by half", of(b(10, 1, 20, 1)), 0, 10, 1, 10);
        offers("60 each", of(b(12, 1, 15, 1, 20, 1, 30, 1, 60, 1)), 0, 12, 1, 12);
        offers("less, then several", of(b(11, 1, 15, 1, 20, 1, 30, 1, 60, 1)), 0, 12, 1, 15);
        // Ahead of 4 for sure: 8 by all, or 12 by half and 4 by half.
        offers("several ahead of another", of(b(8, 1, 12, 1), b(4, 1)), 1, 8, 1, 8, 4);
    }

    /** None is 1001, above each worth: a price that brings as much is the lesser one. */
    private static void noneBringsAsMuchAsItsPrice() {
        offers("a worth of 0 alone", of(b(0, 1)), 0, 0, 1, 0);
        offers("all worths 0", of(b(0, 1), b(0, 2), b(0, 3)), 5, 0, 1, 0, 0, 0);
        offers("as much as the next", of(b(7, 1), b(7, 1)), 1, 7, 1, 7, 7);
        offers("as much as the next, now and then", of(b(3, 1, 7, 1), b(7, 1)), 1, 7, 1, 7, 7);
        offers("one less than the next", of(b(6, 1), b(7, 1)), 1, 7, 1, 1001, 7);
        offers("one more than the next", of(b(8, 1), b(7, 1)), 1, 8, 1, 8, 7);
    }

    /** "its digits by 3 are buyers, the first one the highest of n". */
    private static void firstDigitIsTheHighest() {
        // Who is ahead is asked for the rare great worth, the last one for the sure one.
        int[] book = b(10, 9, 30, 1);
        DoubtSale x = of(book, book, book);
        int[][] last = {{5, 2}, {7, 1}, {11, 2}, {15, 1}, {19, 1}, {21, 0}};
        int[][] orders = {{0, 1, 2}, {0, 2, 1}, {1, 0, 2}, {1, 2, 0}, {2, 0, 1}, {2, 1, 0}};
        for (int at = 0; at < 6; at++) {
            int order = ALL_ORDERS[at];
            Check.due("digits of " + order, 9 * orders[at][0] + 3 * orders[at][1] + orders[at][2], order);
            for (int buyer = 0; buyer < 3; buyer++) {
                Check.due("offers(" + order + ", " + (2 + buyer) + ")", x.offers(order, 2 + buyer),
                        buyer == orders[at][2] ? 10 : 30);
            }
        }
        x = of(book, book);
        offers("0, then 1", x, 1, 12, 1, 30, 10);
        offers("1, then 0", x, 3, 12, 1, 10, 30);
        offers("two digits where three are due", of(b(1, 1), b(1, 1), b(1, 1)), 1, DoubtSale.NO);
        offers("three digits where two are due", x, 5, DoubtSale.NO);
        offers("one digit where two are due", x, 2, DoubtSale.NO);
        offers("the same one twice", x, 4, DoubtSale.NO);
        offers("a first digit of 0 is one of n", x, 0, DoubtSale.NO);
    }

    /** "told from the last buyer on, each as if none ahead had taken it". */
    private static void noneAheadHadTakenIt() {
        // Buyer 0 always takes it, and yet buyer 1's price is told as if it did not.
        offers("the first one always takes it", of(b(1000, 1), b(3, 1, 5, 1)), 1, 1000, 1, 1000, 3);
        offers("the first one is offered none", of(b(1, 1), b(3, 1, 7, 1)), 1, 7, 2, 1001, 7);
        offers("the midst one is offered none", of(b(9, 1, 20, 1), b(1, 1), b(8, 1)), 5, 14, 1, 20, 1001, 8);
    }

    /** "that mean, in least form". */
    private static void meanInLeastForm() {
        offers("0 by 9", of(b(0, 9)), 0, 0, 1, 0);
        offers("whole", of(b(2, 4, 9, 8)), 0, 6, 1, 9);
        offers("as it is", of(b(0, 2, 1, 5)), 0, 5, 7, 1);
        // 9 by 1 of 9, else 8 by 1 of 8: 9 by 9 and 64 by 72 is 17 by 9.
        offers("over both", of(b(0, 8, 9, 1), b(0, 7, 8, 1)), 1, 17, 9, 9, 8);
    }

    private static void greatestOffers() {
        int[] great = b(0, 9, 997, 9, 998, 9, 999, 9, 1000, 9);
        DoubtSale x = of(great, great, great);
        // The last: 997 by 4 of 5. The one ahead: 997 by 4 of 5, or 999 by 2 of 5, 1000 by 1 of 5 ..: 997 by 24 of 25.
        // The first, ahead of 957 and 3 by 25: 997 by 4 of 5 still is the most.
        offers("greatest", x, 5, 123628, 125, 997, 997, 997);
        for (int order : ALL_ORDERS) {
            offers("greatest, any order", x, order, 123628, 125, 997, 997, 997);
        }
    }

    /** "a buyer that is not there", asked for its price or told in the order. */
    private static void aBuyerThatIsNotThere() {
        offers("one buyer", of(b(5, 1)), 0, 5, 1, 5, DoubtSale.NO, DoubtSale.NO, DoubtSale.NO);
        offers("two buyers", of(b(5, 1), b(6, 1)), 1, 6, 1, 1001, 6, DoubtSale.NO, DoubtSale.NO);
        offers("three buyers", of(b(5, 1), b(6, 1), b(7, 1)), 5, 7, 1, 1001, 1001, 7, DoubtSale.NO);
        offers("buyer 1 of one", of(b(5, 1)), 1, DoubtSale.NO);
        offers("buyer 2 of two", of(b(5, 1), b(6, 1)), 2, DoubtSale.NO);
        offers("buyer 2 of two, ahead", of(b(5, 1), b(6, 1)), 6, DoubtSale.NO);
    }

    /** "the weights of pairs that come to it or more": like sums come together. */
    private static void sumsOfTheSameSize() {
        // Sums 2, 3, 3, 4 of weights 2, 8, 1, 4: 30, 39, 16; alone 3 of 3 and 8 of 5: 39 of 15.
        bundle("1 and 2, 2 and 1", of(b(1, 2, 2, 1), b(1, 1, 2, 4)), 3, 13, 0);
        bundle("one pair", of(b(4, 9), b(6, 9)), 10, 81, 0);
    }

    /** "of several the least". */
    private static void bundleOfSeveralTheLeast() {
        // Sums 4, 6, 8, 10: 16, 18, 16, 10.
        bundle("the midst one of four, by itself", of(b(0, 1, 4, 1), b(4, 1, 6, 1)), 6, 3, -1);
        bundle("five, one buyer with one worth", of(b(0, 1), b(12, 1, 15, 1, 20, 1, 30, 1, 60, 1)), 12, 5, 0);
        bundle("two, one buyer with one worth", of(b(0, 1), b(10, 1, 20, 1)), 10, 2, 0);
        bundle("two, the other with one worth", of(b(10, 1, 20, 1), b(0, 1)), 10, 2, 0);
        // Sums 1, 6, 4, 9: 4, 12, 12, 9.
        bundle("the least is not the first seen", of(b(1, 1, 4, 1), b(0, 1, 5, 1)), 4, 3, -1);
        bundle("all sums of 0", of(b(0, 3), b(0, 4)), 0, 12, 0);
    }

    /** "whether a BUNDLE brings more (1), as much (0), less (-1) than the two BEST PRICES alone": by one at least. */
    private static void aloneMoreAsMuchLess() {
        // 3 by 3 of 4 is 9; alone 1 and 1 is 8.
        bundle("9 against 8", of(b(1, 1, 2, 1), b(1, 1, 2, 1)), 3, 3, 1);
        // 4 by 4 is 16; alone 2 and 2.
        bundle("16 against 16", of(b(2, 1, 3, 1), b(2, 1, 3, 1)), 4, 4, 0);
        // 3 by 3 is 9; alone 1 and 3 by half is 10.
        bundle("9 against 10", of(b(0, 1, 2, 1), b(1, 1, 3, 1)), 3, 3, -1);
    }

    private static void bundleOfNothing() {
        DoubtSale x = new DoubtSale();
        x.buyers(3);
        bundle("books as at first", x, 0, 1, 0);
        x.book(0, 0, 9);
        x.book(1, 1000, 9);
        bundle("0 and 1000", x, 1000, 81, 0);
        x = of(b(996, 9, 997, 9, 998, 9, 999, 9, 1000, 9), b(996, 9, 997, 9, 998, 9, 999, 9, 1000, 9));
        bundle("greatest", x, 1992, 2025, 0);
    }

    private static DoubtSale samples(int... worths) {
        DoubtSale x = new DoubtSale();
        for (int s = 0; s < worths.length; s++) {
            Check.due("sample(" + worths[s] + ")", x.sample(worths[s]), s + 1);
        }
        return x;
    }

    /** "SAMPLES (12 at most)", "how many there are": like ones are counted too. */
    private static void samplesAreCounted() {
        DoubtSale x = samples(0, 1000, 0, 1000, 5, 5, 5, 5, 5, 5, 5, 5);
        Check.due("count(2)", x.count(2), 12);
        Check.due("a thirteenth", x.sample(5), -3);
        Check.due("count(2) after a thirteenth", x.count(2), 12);
        Check.due("learnt()", x.learnt(), 1000);
    }

    /** "of several the least": wherever it stands among the SAMPLES. */
    private static void learntOfSeveralTheLeast() {
        int[][] rows = {{6, 3}, {3, 6}, {2, 3, 6}, {6, 3, 2}, {3, 6, 2}, {12, 4, 6, 3}, {6, 12, 3, 4}};
        int[] due = {3, 3, 2, 2, 2, 3, 3};
        for (int row = 0; row < rows.length; row++) {
            Check.due("learnt() of row " + row, samples(rows[row]).learnt(), due[row]);
        }
        Check.due("learnt() of like ones", samples(7, 7, 7).learnt(), 7);
        Check.due("learnt() of all 0", samples(0, 0).learnt(), 0);
        Check.due("learnt() of 0 and 1", samples(0, 1).learnt(), 1);
        Check.due("learnt() of 7 and 3", samples(7, 3).learnt(), 7);
    }

    /** "how many SAMPLES are it or more": it itself, and those like it, are counted. */
    private static void learntIsThatOrMore() {
        // 5 by 1 against 2 by 2; 5 by 1 against 2 by 3; 3 by 4 against 11 by 1.
        Check.due("learnt() of 2, 5", samples(2, 5).learnt(), 5);
        Check.due("learnt() of 2, 2, 5", samples(2, 2, 5).learnt(), 2);
        Check.due("learnt() of 3, 3, 3, 11", samples(3, 3, 3, 11).learnt(), 3);
        Check.due("learnt() of 3, 3, 3, 12", samples(3, 3, 3, 12).learnt(), 3);
        Check.due("learnt() of 3, 3, 3, 13", samples(3, 3, 3, 13).learnt(), 13);
    }

    /** "There are no SAMPLES: how many there were"; "NONE: there are no SAMPLES"; what follows begins anew. */
    private static void clearAndBegin() {
        DoubtSale x = samples(1000, 1000, 1000, 1000, 1000, 1000, 1000, 1000, 1000, 1000, 1000, 1000);
        Check.due("clear()", x.clear(), 12);
        Check.due("clear() again", x.clear(), 0);
        Check.due("count(2)", x.count(2), 0);
        Check.due("learnt()", x.learnt(), -9);
        Check.due("sample(4)", x.sample(4), 1);
        Check.due("learnt() of 4 alone", x.learnt(), 4);
        Check.due("clear() of one", x.clear(), 1);
        Check.due("reserve stays", x.count(1), 0);
    }
}
