/** Promises 12 to 14 and 21, "RULES", sentence by sentence, at the edges; what is refused is RefusedTest's. */
public final class EdgesOfWordsTest {
    public static void main(String[] args) {
        reserveBecomesAndTellsWhatItWas();
        noOthers();
        greatestOfTheOthers();
        ofSeveralTheLeastBuyerGetsIt();
        reserveAtLeast();
        reserveOrMoreTold();
        secondHasNoReserve();
        tenthRoundedDown();
        noBodyIsAsked();
        traceCountsBodiesAskedByPay();
        traceAfterVeryManyCalls();
        averageInLeastForm();
        averageOfReserves();
        averageOfGreatestBooks();
        Check.end();
    }

    private static DoubtSale of(int n, int reserve) {
        DoubtSale x = new DoubtSale();
        x.buyers(n);
        x.reserve(reserve);
        return x;
    }

    private static void pays(DoubtSale x, int kind, int first, int second, int third, int want) {
        Check.due("pay(" + kind + ", " + first + ", " + second + ", " + third + ")", x.pay(kind, first, second, third), want);
    }

    /** "RESERVE becomes v: what it was", 0 and 1000 as well; a refused one leaves it. */
    private static void reserveBecomesAndTellsWhatItWas() {
        DoubtSale x = new DoubtSale();
        Check.due("reserve(0) at first", x.reserve(0), 0);
        Check.due("reserve(1000)", x.reserve(1000), 0);
        Check.due("reserve(1000) again", x.reserve(1000), 1000);
        Check.due("reserve(1001)", x.reserve(1001), -1);
        Check.due("reserve(-1)", x.reserve(-1), -1);
        Check.due("count(1)", x.count(1), 1000);
        Check.due("reserve(1)", x.reserve(1), 1000);
        Check.due("reserve(0)", x.reserve(0), 1);
        Check.due("count(1)", x.count(1), 0);
    }

    /** "(0, if there are none)": of one buyer, whatever is told for others. */
    private static void noOthers() {
        DoubtSale x = of(1, 0);
        pays(x, 0, 1000, 1000, 1000, 0);
        pays(x, 0, 0, 5, 5, 0);
        pays(x, 1, 1000, 1000, 1000, 0);
        pays(x, 2, 1000, 1000, 1000, 0);
        x.reserve(30);
        pays(x, 1, 30, 1000, 1000, 30);
        pays(x, 2, 30, 1000, 1000, 33);
    }

    /** "the greatest of the others'": wherever it stands, and if it is 0, 1000 or as great as what is told by who gets it. */
    private static void greatestOfTheOthers() {
        DoubtSale x = of(3, 0);
        int[][] orders = {{0, 1, 2}, {0, 2, 1}, {1, 0, 2}, {1, 2, 0}, {2, 0, 1}, {2, 1, 0}};
        int[][] told = {{9, 7, 3, 7}, {9, 9, 3, 9}, {9, 3, 3, 3}, {9, 9, 9, 9}, {9, 0, 0, 0}, {0, 0, 0, 0}, {1000, 999, 0, 999},
            {1000, 1000, 1000, 1000}};
        for (int[] row : told) {
            for (int[] order : orders) {
                pays(x, 0, row[order[0]], row[order[1]], row[order[2]], row[3]);
                pays(x, 1, row[order[0]], row[order[1]], row[order[2]], row[3]);
                pays(x, 2, row[order[0]], row[order[1]], row[order[2]], row[3] + row[3] / 10);
            }
        }
        x = of(2, 0);
        pays(x, 0, 4, 6, 1000, 4);
        pays(x, 0, 6, 4, 1000, 4);
        pays(x, 0, 6, 6, 1000, 6);
        pays(x, 0, 6, 0, 1000, 0);
    }

    /** "of several the least buyer": all others' is then as much, so that much is paid. */
    private static void ofSeveralTheLeastBuyerGetsIt() {
        DoubtSale x = of(3, 5);
        for (int kind = 0; kind < 2; kind++) {
            pays(x, kind, 8, 8, 2, 8);
            pays(x, kind, 8, 2, 8, 8);
            pays(x, kind, 2, 8, 8, 8);
            pays(x, kind, 8, 8, 8, 8);
        }
    }

    /** "RESERVE (0 .. 1000; 0 at first) at least": one less, as much, one more. */
    private static void reserveAtLeast() {
        DoubtSale x = of(2, 50);
        pays(x, 1, 60, 49, 0, 50);
        pays(x, 1, 60, 50, 0, 50);
        pays(x, 1, 60, 51, 0, 51);
        pays(x, 1, 50, 0, 0, 50);
        pays(x, 1, 50, 50, 0, 50);
        x.reserve(1000);
        pays(x, 1, 1000, 0, 0, 1000);
        pays(x, 2, 0, 1000, 0, 1100);
        x.reserve(0);
        pays(x, 1, 0, 0, 0, 0);
        pays(x, 1, 1, 0, 0, 0);
    }

    /** "by RESERVED, FEED only with RESERVE or more told: else no one", by the one with the greatest worth told. */
    private static void reserveOrMoreTold() {
        for (int n = 1; n <= 3; n++) {
            for (int kind = 1; kind < 3; kind++) {
                DoubtSale x = of(n, 20);
                int due = kind == 1 ? 20 : 22;
                pays(x, kind, 19, 19, 19, -9);
                pays(x, kind, 0, 0, 0, -9);
                pays(x, kind, 20, 0, 0, due);
                pays(x, kind, 21, 19, 19, due);
                if (n > 1) {
                    pays(x, kind, 0, 20, 0, due);
                }
                if (n > 2) {
                    pays(x, kind, 0, 19, 20, due);
                }
                if (n < 3) {
                    pays(x, kind, 0, 0, 20, -9);
                }
            }
        }
    }

    /** RESERVE is RESERVED's and FEED's: by SECOND some one always gets it. */
    private static void secondHasNoReserve() {
        DoubtSale x = of(3, 1000);
        pays(x, 0, 999, 998, 0, 998);
        pays(x, 0, 0, 0, 0, 0);
        pays(x, 0, 5, 0, 0, 0);
    }

    /** "and a tenth of it, rounded down": of what RESERVED tells, ahead of and at each ten. */
    private static void tenthRoundedDown() {
        DoubtSale x = of(2, 0);
        int[][] due = {{0, 0}, {1, 1}, {9, 9}, {10, 11}, {11, 12}, {19, 20}, {20, 22}, {99, 108}, {100, 110}, {999, 1098},
            {1000, 1100}};
        for (int[] d : due) {
            pays(x, 2, 1000, d[0], 0, d[1]);
        }
        for (int[] d : due) {
            x.reserve(d[0]);
            pays(x, 2, 1000, 0, 0, d[1]);
        }
        // The tenth is not asked for ahead of RESERVE: 19 and a tenth is 20, but RESERVE of 20 and a tenth is 22.
        x.reserve(20);
        pays(x, 2, 1000, 19, 0, 22);
    }

    /** "no one gets it (no body is asked then)", nor when it is refused. */
    private static void noBodyIsAsked() {
        DoubtSale x = of(2, 10);
        pays(x, 1, 9, 9, 0, -9);
        pays(x, 2, 9, 9, 0, -9);
        pays(x, 3, 10, 10, 0, -1);
        pays(x, -1, 10, 10, 0, -1);
        pays(x, 2, 10, 1001, 0, -1);
        pays(x, 2, -1, 10, 0, -1);
        Check.due("trace()", x.trace(), 0);
        pays(x, 1, 9, 10, 0, 10);
        Check.due("trace() when the second buyer gets it", x.trace(), 11);
    }

    /** "numbers in brackets come to THE TRACE as often as pay() asks that body": 1; 10 and 1; 100, 10 and 1. */
    private static void traceCountsBodiesAskedByPay() {
        int[] due = {1, 11, 111};
        for (int kind = 0; kind < 3; kind++) {
            DoubtSale x = of(3, 0);
            pays(x, kind, 0, 0, 0, 0);
            Check.due("trace() after a price of 0 by kind " + kind, x.trace(), due[kind]);
            pays(x, kind, 9, 8, 7, 8);
            Check.due("trace() after two by kind " + kind, x.trace(), 2 * due[kind]);
            x.average(kind, 0);
            x.average(kind, 1);
            x.brings(0);
            x.pays(0, 0, 0, 0);
            x.offers(5, 0);
            Check.due("trace() after what pay() is not asked for", x.trace(), 2 * due[kind]);
            x.reserve(3);
            x.clear();
            x.buyers(1);
            Check.due("trace() stays", x.trace(), 2 * due[kind]);
        }
    }

    /** An object is used for 512 calls: the last one tells all those ahead. */
    private static void traceAfterVeryManyCalls() {
        DoubtSale x = new DoubtSale();
        for (int call = 1; call < 512; call++) {
            x.pay(2, 1000, 0, 0);
        }
        Check.due("trace() as the 512th call", x.trace(), 511 * 111);
    }

    private static void average(DoubtSale x, int kind, long upper, long lower) {
        Check.due("average(" + kind + ", 0)", x.average(kind, 0), upper);
        Check.due("average(" + kind + ", 1)", x.average(kind, 1), lower);
    }

    /** "what is paid in the mean, likewise": by weights, in least form; nothing is 0 by 1; the tenth is rounded each time. */
    private static void averageInLeastForm() {
        DoubtSale x = of(1, 0);
        x.book(0, 1000, 9);
        for (int kind = 0; kind < 3; kind++) {
            average(x, kind, 0, 1);
        }
        x = of(2, 0);
        x.book(0, 5, 3);
        x.more(0, 15, 6);
        x.book(1, 19, 4);
        // 5 by 3 of 9, 15 by 6 of 9; FEED: 5 and 16.
        average(x, 0, 35, 3);
        average(x, 1, 35, 3);
        average(x, 2, 37, 3);
        x = of(3, 0);
        x.book(0, 8, 5);
        x.book(1, 8, 7);
        x.book(2, 3, 1);
        x.more(2, 9, 1);
        average(x, 0, 8, 1);
        x.book(2, 1, 9);
        average(x, 0, 8, 1);
    }

    /** "else no one": then 0 is paid; RESERVE below, at and above the worths. */
    private static void averageOfReserves() {
        DoubtSale x = of(1, 10);
        x.book(0, 10, 1);
        x.more(0, 11, 2);
        average(x, 0, 0, 1);
        average(x, 1, 10, 1);
        average(x, 2, 11, 1);
        x.reserve(11);
        average(x, 1, 22, 3);
        average(x, 2, 8, 1);
        x.reserve(12);
        average(x, 1, 0, 1);
        average(x, 2, 0, 1);
        average(x, 0, 0, 1);
        x.buyers(2);
        average(x, 1, 0, 1);
    }

    private static void averageOfGreatestBooks() {
        DoubtSale x = of(3, 1000);
        for (int b = 0; b < 3; b++) {
            for (int i = 0; i < 5; i++) {
                Check.due("filling", i == 0 ? x.book(b, 996, 9) : x.more(b, 996 + i, 9), i + 1);
            }
        }
        // Some one has 1000 by 1 less 4 by 5 three times: 61 of 125.
        average(x, 1, 488, 1);
        average(x, 2, 2684, 5);
        // The second greatest of three of 0 .. 4, by likes, is 2 in the mean.
        average(x, 0, 998, 1);
    }
}
