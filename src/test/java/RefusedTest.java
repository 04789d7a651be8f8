/**
 * "Refused, and nothing changes, the first of these: BAD (a number is not as told, or there is no such thing), STATE,
 * FULL." Each number of each call one too small, one too large, and at the ends where an int wraps around: refused,
 * and all is as before; the least and the greatest number that is as told: not refused.
 */
public final class RefusedTest {
    private static final int MIN = Integer.MIN_VALUE;
    private static final int MAX = Integer.MAX_VALUE;
    /** How many worths the buyers' books have in the filling below. */
    private static final int[] SIZES = {5, 3, 2};
    private static final int[] LAST_WORTHS = {40, 20, 15};

    interface Call {
        long on(DoubtSale x, int[] told);
    }

    public static void main(String[] args) {
        for (int n = 1; n <= 3; n++) {
            books(n);
            bestRule(n);
            rulesByWords(n);
            offersBundlesSamples(n);
        }
        full();
        numbersNotLookedAt();
        callsThatOnlyTell();
        Check.end();
    }

    private static DoubtSale filled(int n) {
        DoubtSale x = new DoubtSale();
        x.buyers(n);
        x.reserve(17);
        int[][] worths = {{0, 1, 4}, {0, 2, 1}, {0, 10, 2}, {0, 11, 2}, {0, 40, 1}, {1, 3, 9}, {1, 9, 2}, {1, 20, 3}, {2, 0, 1}, {2, 15, 9}};
        for (int i = 0; i < worths.length; i++) {
            int b = worths[i][0];
            if (i == 0 || b != worths[i - 1][0]) {
                x.book(b, worths[i][1], worths[i][2]);
            } else {
                x.more(b, worths[i][1], worths[i][2]);
            }
        }
        x.sample(4);
        x.sample(9);
        x.sample(9);
        x.pay(2, 100, 50, 20);
        return x;
    }

    /** Each number by itself goes over its bounds, the others staying as in good. */
    private static void each(String name, int n, Call call, long refused, int[] good, int[][] bounds) {
        for (int at = 0; at < good.length; at++) {
            if (bounds[at] == null) {
                continue;
            }
            int least = bounds[at][0];
            int greatest = bounds[at][1];
            for (int bad : new int[] {least - 1, greatest + 1, MIN, MIN + 1, MIN + 2, -1001, MAX - 1, MAX}) {
                int[] told = with(good, at, bad);
                Look.unchanged(text(name, n, told), () -> filled(n), x -> call.on(x, told), refused);
            }
            for (int fine : new int[] {least, greatest}) {
                int[] told = with(good, at, fine);
                Check.due(text(name, n, told) + " is as told, refused", call.on(filled(n), told) == refused ? 1 : 0, 0);
            }
        }
    }

    private static int[] with(int[] good, int at, int number) {
        int[] told = good.clone();
        told[at] = number;
        return told;
    }

    private static String text(String name, int n, int[] told) {
        return n + " buyers: " + name + java.util.Arrays.toString(told);
    }

    private static int[] to(int least, int greatest) {
        return new int[] {least, greatest};
    }

    private static int[] place(int n, int buyer) {
        return buyer < n ? to(0, SIZES[buyer] - 1) : null;
    }

    private static void books(int n) {
        int[] buyer = to(0, n - 1);
        int last = n - 1;
        int above = LAST_WORTHS[last] + 1;
        each("buyers", n, (x, a) -> x.buyers(a[0]), DoubtSale.BAD, new int[] {2}, new int[][] {to(1, 3)});
        each("book", n, (x, a) -> x.book(a[0], a[1], a[2]), DoubtSale.BAD, new int[] {0, 5, 5},
                new int[][] {buyer, to(0, 1000), to(1, 9)});
        each("more", n, (x, a) -> x.more(a[0], a[1], a[2]), DoubtSale.BAD, new int[] {last, 500, 5},
                new int[][] {buyer, to(above, 1000), to(1, 9)});
        each("about", n, (x, a) -> x.about(a[0], a[1], a[2]), DoubtSale.BAD, new int[] {last, 1, 3},
                new int[][] {buyer, place(n, last), to(0, 3)});
        each("whole", n, (x, a) -> x.whole(a[0], a[1]), DoubtSale.BAD, new int[] {0, 1},
                new int[][] {buyer, to(0, 2)});
        each("slope", n, (x, a) -> x.slope(a[0], a[1], false, a[2]), DoubtSale.NO, new int[] {last, 1, 0},
                new int[][] {buyer, place(n, last), to(0, 1)});
        each("ironed slope", n, (x, a) -> x.slope(a[0], a[1], true, a[2]), DoubtSale.NO, new int[] {last, 1, 0},
                new int[][] {buyer, place(n, last), to(0, 1)});
    }

    private static void bestRule(int n) {
        int[] buyer = to(0, n - 1);
        each("gets", n, (x, a) -> x.gets(a[0], a[1], a[2]), DoubtSale.BAD, new int[] {1, 1, 1},
                new int[][] {place(n, 0), place(n, 1), place(n, 2)});
        each("pays", n, (x, a) -> x.pays(a[0], a[1], a[2], a[3]), DoubtSale.BAD, new int[] {1, 1, 1, 0},
                new int[][] {place(n, 0), place(n, 1), place(n, 2), buyer});
        for (int b = 0; b < n; b++) {
            each("gain", n, (x, a) -> x.gain(a[0], a[1], a[2], a[3], a[4]), DoubtSale.NO, new int[] {1, 1, 1, b, 1},
                    new int[][] {place(n, 0), place(n, 1), place(n, 2), buyer, place(n, b)});
        }
        each("brings", n, (x, a) -> x.brings(a[0]), DoubtSale.NO, new int[] {0}, new int[][] {to(0, 1)});
    }

    private static void rulesByWords(int n) {
        int[] worth = to(0, 1000);
        each("reserve", n, (x, a) -> x.reserve(a[0]), DoubtSale.BAD, new int[] {5}, new int[][] {worth});
        each("pay", n, (x, a) -> x.pay(a[0], a[1], a[2], a[3]), DoubtSale.BAD, new int[] {0, 50, 60, 70},
                new int[][] {to(0, 2), worth, n > 1 ? worth : null, n > 2 ? worth : null});
        each("average", n, (x, a) -> x.average(a[0], a[1]), DoubtSale.NO, new int[] {1, 0},
                new int[][] {to(0, 2), to(0, 1)});
    }

    private static void offersBundlesSamples(int n) {
        int order = new int[] {0, 0, 1, 5}[n];
        each("offers", n, (x, a) -> x.offers(order, a[0]), DoubtSale.NO, new int[] {0}, new int[][] {to(0, n + 1)});
        if (n > 1) {
            each("bundle with buyer 0", n, (x, a) -> x.bundle(a[0], 0, a[1]), -5, new int[] {1, 0},
                    new int[][] {to(1, n - 1), to(0, 2)});
            each("bundle of buyer 0", n, (x, a) -> x.bundle(0, a[0], a[1]), -5, new int[] {1, 0},
                    new int[][] {to(1, n - 1), to(0, 2)});
        }
        for (int b = 0; b < n; b++) {
            int buyer = b;
            Look.unchanged("bundle(" + b + ", " + b + ", 0)", () -> filled(n), x -> x.bundle(buyer, buyer, 0), -5);
        }
        for (int bad : new int[] {MIN, -1, 27, 81, MAX}) {
            Look.unchanged("offers(" + bad + ", 0)", () -> filled(n), x -> x.offers(bad, 0), DoubtSale.NO);
        }
        each("sample", n, (x, a) -> x.sample(a[0]), DoubtSale.BAD, new int[] {5}, new int[][] {to(0, 1000)});
        each("count", n, (x, a) -> x.count(a[0]), DoubtSale.BAD, new int[] {0}, new int[][] {to(0, 2)});
    }

    private static DoubtSale fullOfSamples() {
        DoubtSale x = filled(1);
        x.clear();
        for (int s = 0; s < 12; s++) {
            x.sample(1);
        }
        return x;
    }

    /** FULL stands behind BAD, and changes nothing: neither the last worth nor the last SAMPLE is written over. */
    private static void full() {
        Look.unchanged("a sixth worth", () -> filled(3), x -> x.more(0, 1000, 9), DoubtSale.FULL);
        Look.unchanged("a sixth worth one above the last", () -> filled(3), x -> x.more(0, 41, 1), DoubtSale.FULL);
        Look.unchanged("a sixth worth like the last", () -> filled(3), x -> x.more(0, 40, 1), DoubtSale.BAD);
        Look.unchanged("a sixth worth below the last", () -> filled(3), x -> x.more(0, 0, 1), DoubtSale.BAD);
        Look.unchanged("a sixth worth too large", () -> filled(3), x -> x.more(0, 1001, 1), DoubtSale.BAD);
        Look.unchanged("a sixth worth of weight 0", () -> filled(3), x -> x.more(0, 41, 0), DoubtSale.BAD);
        Look.unchanged("a sixth worth of weight 10", () -> filled(3), x -> x.more(0, 41, 10), DoubtSale.BAD);
        Look.unchanged("a thirteenth SAMPLE", () -> fullOfSamples(), x -> x.sample(1000), DoubtSale.FULL);
        Look.unchanged("a thirteenth SAMPLE of 0", () -> fullOfSamples(), x -> x.sample(0), DoubtSale.FULL);
        Look.unchanged("a thirteenth SAMPLE too large", () -> fullOfSamples(), x -> x.sample(1001), DoubtSale.BAD);
        Look.unchanged("a thirteenth SAMPLE too small", () -> fullOfSamples(), x -> x.sample(-1), DoubtSale.BAD);
    }

    /** "Of the first n buyers; others are not looked at": any number may stand there. */
    private static void numbersNotLookedAt() {
        for (int odd : new int[] {MIN, -1, 0, 5, 1001, MAX}) {
            DoubtSale one = filled(1);
            DoubtSale two = filled(2);
            Check.due("gets(4, " + odd + ", " + odd + ")", one.gets(4, odd, odd), 0);
            Check.due("pays(4, " + odd + ", " + odd + ", 0)", one.pays(4, odd, odd, 0), 10);
            Check.due("gain(4, " + odd + ", " + odd + ", 0, 4)", one.gain(4, odd, odd, 0, 4), 30);
            Check.due("pay(1, 30, " + odd + ", " + odd + ")", one.pay(1, 30, odd, odd), 17);
            Check.due("gets(0, 2, " + odd + ")", two.gets(0, 2, odd), 1);
            Check.due("pays(0, 2, " + odd + ", 1)", two.pays(0, 2, odd, 1), 20);
            Check.due("gain(0, 2, " + odd + ", 1, 2)", two.gain(0, 2, odd, 1, 2), 0);
            Check.due("pay(1, 30, 20, " + odd + ")", two.pay(1, 30, 20, odd), 20);
        }
    }

    /** What only tells changes nothing: neither BOOKS nor RESERVE, SAMPLES or THE TRACE. */
    private static void callsThatOnlyTell() {
        DoubtSale told = filled(3);
        told.gets(1, 1, 1);
        told.pays(4, 0, 0, 0);
        told.gain(4, 2, 1, 0, 2);
        told.brings(0);
        told.average(0, 0);
        told.average(1, 0);
        told.average(2, 1);
        told.offers(21, 0);
        told.bundle(2, 1, 2);
        told.learnt();
        told.count(0);
        told.trace();
        told.about(0, 0, 0);
        told.whole(0, 2);
        told.slope(0, 1, true, 0);
        Look.same("calls that only tell", told, filled(3));
    }
}
