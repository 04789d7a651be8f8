/** Promises 2 to 7: buyers, book, more, about, whole, slope. */
public final class BooksTest {
    public static void main(String[] args) {
        buyers();
        book();
        more();
        aboutAndWhole();
        bestPriceTies();
        slopes();
        slopesInLeastForm();
        Check.end();
    }

    private static void buyers() {
        DoubtSale x = new DoubtSale();
        Check.due("buyers(0)", x.buyers(0), -1);
        Check.due("buyers(-1)", x.buyers(-1), -1);
        Check.due("buyers(4)", x.buyers(4), -1);
        Check.due("count(0) after refusals", x.count(0), 1);
        Check.due("reserve(7)", x.reserve(7), 0);
        Check.due("sample(9)", x.sample(9), 1);
        Check.due("pay(0, 3, 0, 0)", x.pay(0, 3, 0, 0), 0);
        Check.due("book(0, 5, 2)", x.book(0, 5, 2), 1);
        Check.due("more(0, 6, 2)", x.more(0, 6, 2), 2);
        Check.due("buyers(4)", x.buyers(4), -1);
        Check.due("whole(0, 0) after a refusal", x.whole(0, 0), 2);
        Check.due("buyers(3)", x.buyers(3), 1);
        for (int b = 0; b < 3; b++) {
            Check.due("whole(" + b + ", 0) at first", x.whole(b, 0), 1);
            Check.due("whole(" + b + ", 1) at first", x.whole(b, 1), 1);
            Check.due("about(" + b + ", 0, 0) at first", x.about(b, 0, 0), 0);
        }
        Check.due("count(1) stays", x.count(1), 7);
        Check.due("count(2) stays", x.count(2), 1);
        Check.due("trace() stays", x.trace(), 1);
        Check.due("book(2, 8, 3)", x.book(2, 8, 3), 1);
        Check.due("buyers(3) again", x.buyers(3), 3);
        Check.due("about(2, 0, 0) as at first", x.about(2, 0, 0), 0);
        Check.due("book(2, 8, 3)", x.book(2, 8, 3), 1);
        Check.due("buyers(2)", x.buyers(2), 3);
        Check.due("whole(2, 0) is not there", x.whole(2, 0), -1);
        Check.due("brings(0) without the third", x.brings(0), 0);
        Check.due("buyers(1)", x.buyers(1), 2);
    }

    private static void book() {
        DoubtSale x = new DoubtSale();
        Check.due("book(-1, 1, 1)", x.book(-1, 1, 1), -1);
        Check.due("book(1, 1, 1)", x.book(1, 1, 1), -1);
        Check.due("book(0, -1, 1)", x.book(0, -1, 1), -1);
        Check.due("book(0, 1001, 1)", x.book(0, 1001, 1), -1);
        Check.due("book(0, 1, 0)", x.book(0, 1, 0), -1);
        Check.due("book(0, 1, 10)", x.book(0, 1, 10), -1);
        Check.due("about(0, 0, 0) after refusals", x.about(0, 0, 0), 0);
        Check.due("book(0, 1000, 9)", x.book(0, 1000, 9), 1);
        Check.due("about(0, 0, 0)", x.about(0, 0, 0), 1000);
        Check.due("about(0, 0, 1)", x.about(0, 0, 1), 9);
        Check.due("book(0, 0, 1)", x.book(0, 0, 1), 1);
        Check.due("more(0, 4, 2)", x.more(0, 4, 2), 2);
        Check.due("book(0, 7, 3) begins anew", x.book(0, 7, 3), 1);
        Check.due("whole(0, 0)", x.whole(0, 0), 1);
        Check.due("whole(0, 1)", x.whole(0, 1), 3);
        Check.due("about(0, 1, 0)", x.about(0, 1, 0), -1);
        Check.due("slope(0, 0, true, 0) of the new book", x.slope(0, 0, true, 0), 7);
    }

    private static void more() {
        DoubtSale x = new DoubtSale();
        Check.due("more(-1, 1, 1)", x.more(-1, 1, 1), -1);
        Check.due("more(1, 1, 1)", x.more(1, 1, 1), -1);
        Check.due("more(0, 1001, 1)", x.more(0, 1001, 1), -1);
        Check.due("more(0, -1, 1)", x.more(0, -1, 1), -1);
        Check.due("more(0, 5, 0)", x.more(0, 5, 0), -1);
        Check.due("more(0, 5, 10)", x.more(0, 5, 10), -1);
        Check.due("more(0, 0, 1) not above", x.more(0, 0, 1), -1);
        Check.due("whole(0, 0) after refusals", x.whole(0, 0), 1);
        Check.due("more(0, 1, 9)", x.more(0, 1, 9), 2);
        Check.due("more(0, 1, 9) not above", x.more(0, 1, 9), -1);
        Check.due("more(0, 2, 1)", x.more(0, 2, 1), 3);
        Check.due("more(0, 3, 1)", x.more(0, 3, 1), 4);
        Check.due("more(0, 999, 1)", x.more(0, 999, 1), 5);
        Check.due("more(0, 1000, 1) full", x.more(0, 1000, 1), -3);
        Check.due("more(0, 999, 1) bad before full", x.more(0, 999, 1), -1);
        Check.due("more(0, 1000, 10) bad before full", x.more(0, 1000, 10), -1);
        Check.due("more(1, 1000, 1) bad before full", x.more(1, 1000, 1), -1);
        Check.due("whole(0, 0) after full", x.whole(0, 0), 5);
        Check.due("whole(0, 1) after full", x.whole(0, 1), 13);
        Check.due("about(0, 4, 0)", x.about(0, 4, 0), 999);
    }

    private static void aboutAndWhole() {
        DoubtSale x = new DoubtSale();
        x.buyers(2);
        x.book(1, 3, 4);
        x.more(1, 10, 2);
        x.more(1, 11, 9);
        int[][] due = {{3, 4, 15, 45}, {10, 2, 11, 110}, {11, 9, 9, 99}};
        for (int i = 0; i < 3; i++) {
            for (int what = 0; what < 4; what++) {
                Check.due("about(1, " + i + ", " + what + ")", x.about(1, i, what), due[i][what]);
            }
        }
        Check.due("about(1, 3, 0)", x.about(1, 3, 0), -1);
        Check.due("about(1, -1, 0)", x.about(1, -1, 0), -1);
        Check.due("about(1, 0, -1)", x.about(1, 0, -1), -1);
        Check.due("about(1, 0, 4)", x.about(1, 0, 4), -1);
        Check.due("about(2, 0, 0)", x.about(2, 0, 0), -1);
        Check.due("about(-1, 0, 0)", x.about(-1, 0, 0), -1);
        Check.due("about(0, 0, 2) of the other", x.about(0, 0, 2), 1);
        Check.due("whole(1, 0)", x.whole(1, 0), 3);
        Check.due("whole(1, 1)", x.whole(1, 1), 15);
        Check.due("whole(1, 2)", x.whole(1, 2), 1);
        Check.due("whole(1, -1)", x.whole(1, -1), -1);
        Check.due("whole(1, 3)", x.whole(1, 3), -1);
        Check.due("whole(2, 0)", x.whole(2, 0), -1);
        Check.due("whole(-1, 0)", x.whole(-1, 0), -1);
    }

    private static void bestPriceTies() {
        DoubtSale x = new DoubtSale();
        x.book(0, 5, 1);
        x.more(0, 10, 1);
        Check.due("whole(0, 2) of 10 and 10 the least", x.whole(0, 2), 0);
        x.more(0, 15, 1);
        Check.due("whole(0, 2) of 15, 20, 15", x.whole(0, 2), 1);
        x.more(0, 1000, 1);
        Check.due("whole(0, 2) the last", x.whole(0, 2), 3);
    }

    private static void slopes() {
        DoubtSale x = new DoubtSale();
        // Shares 10, 6, 5, 3, 1; takes 10, 12, 50, 33, 40. Hull: (0,0) (1,40) (5,50) (10,10).
        x.book(0, 1, 4);
        x.more(0, 2, 1);
        x.more(0, 10, 2);
        x.more(0, 11, 2);
        x.more(0, 40, 1);
        long[] plain = {-1, 2, -38, 1, 17, 2, -7, 2, 40, 1};
        long[] ironed = {-8, 1, -8, 1, 5, 2, 5, 2, 40, 1};
        for (int i = 0; i < 5; i++) {
            for (int part = 0; part < 2; part++) {
                Check.due("slope(0, " + i + ", false, " + part + ")", x.slope(0, i, false, part), plain[2 * i + part]);
                Check.due("slope(0, " + i + ", true, " + part + ")", x.slope(0, i, true, part), ironed[2 * i + part]);
            }
        }
        long no = DoubtSale.NO;
        Check.due("slope(1, 0, true, 0)", x.slope(1, 0, true, 0), no);
        Check.due("slope(-1, 0, true, 0)", x.slope(-1, 0, true, 0), no);
        Check.due("slope(0, -1, false, 0)", x.slope(0, -1, false, 0), no);
        Check.due("slope(0, 5, false, 0)", x.slope(0, 5, false, 0), no);
        Check.due("slope(0, 0, true, -1)", x.slope(0, 0, true, -1), no);
        Check.due("slope(0, 0, false, 2)", x.slope(0, 0, false, 2), no);
    }

    private static void slopesInLeastForm() {
        DoubtSale x = new DoubtSale();
        // Shares 12, 4; takes 24, 40: slopes -16/8 = -2 and 40/4.
        x.book(0, 2, 8);
        x.more(0, 10, 4);
        Check.due("slope(0, 0, false, 0)", x.slope(0, 0, false, 0), -2);
        Check.due("slope(0, 0, false, 1)", x.slope(0, 0, false, 1), 1);
        // Shares 12, 8; takes 12, 24: -12/4; then a third worth turns 8, 24 into another hull.
        x.book(0, 0, 9);
        x.more(0, 3, 9);
        Check.due("slope(0, 0, true, 0)", x.slope(0, 0, true, 0), -3);
        x.book(0, 9, 9);
        x.more(0, 18, 9);
        Check.due("slope of nothing, upper", x.slope(0, 0, true, 0), 0);
        Check.due("slope of nothing, lower", x.slope(0, 0, true, 1), 1);
        // Shares 9, 5, 2; takes 9, 40, 18: hull (0,0) (2,18) (5,40) (9,9), 22/3 and -31/4.
        x.book(0, 1, 4);
        x.more(0, 8, 3);
        x.more(0, 9, 2);
        Check.due("slope(0, 1, true, 0)", x.slope(0, 1, true, 0), 22);
        Check.due("slope(0, 1, true, 1)", x.slope(0, 1, true, 1), 3);
        Check.due("slope(0, 0, true, 0)", x.slope(0, 0, true, 0), -31);
        Check.due("slope(0, 0, true, 1)", x.slope(0, 0, true, 1), 4);
    }
}
