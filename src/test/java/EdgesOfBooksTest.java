/** Promises 1 to 7 and "BUYERS and BOOKS", sentence by sentence, at the edges; what is refused is RefusedTest's. */
public final class EdgesOfBooksTest {
    public static void main(String[] args) {
        newObject();
        objectsByThemselves();
        buyersThereWere();
        booksAsAtFirst();
        reserveSamplesAndTraceStay();
        bookIsBegun();
        moreTellsHowMany();
        leastAndGreatestNumbers();
        shareAndTake();
        bestPriceOfSeveralTheLeast();
        behindTheLastOneTakeIsNothing();
        slopesInLeastForm();
        ironedIsNothingAtShareNothing();
        ironedOverlooksHollows();
        ironedThroughCornersInOneLine();
        ironedNeverFalls();
        ironedIsTheLeastRow();
        Check.end();
    }

    private static DoubtSale of(int... worthsAndWeights) {
        DoubtSale x = new DoubtSale();
        fill(x, 0, worthsAndWeights);
        return x;
    }

    private static void fill(DoubtSale x, int buyer, int... worthsAndWeights) {
        x.book(buyer, worthsAndWeights[0], worthsAndWeights[1]);
        for (int i = 2; i < worthsAndWeights.length; i += 2) {
            Check.due("more", x.more(buyer, worthsAndWeights[i], worthsAndWeights[i + 1]), i / 2 + 1);
        }
    }

    private static void isAsAtFirst(String when, DoubtSale x, int buyer) {
        Check.due(when + ": whole(" + buyer + ", 0)", x.whole(buyer, 0), 1);
        Check.due(when + ": whole(" + buyer + ", 1)", x.whole(buyer, 1), 1);
        Check.due(when + ": whole(" + buyer + ", 2)", x.whole(buyer, 2), 0);
        int[] due = {0, 1, 1, 0};
        for (int what = 0; what < 4; what++) {
            Check.due(when + ": about(" + buyer + ", 0, " + what + ")", x.about(buyer, 0, what), due[what]);
        }
        Check.due(when + ": about(" + buyer + ", 1, 0)", x.about(buyer, 1, 0), -1);
        for (int part = 0; part < 2; part++) {
            Check.due(when + ": slope " + part, x.slope(buyer, 0, false, part), part);
            Check.due(when + ": ironed " + part, x.slope(buyer, 0, true, part), part);
        }
    }

    /** "BUYERS .. 1 at first", "at first one worth 0 with weight 1", "RESERVE 0 at first"; no SAMPLES, no TRACE. */
    private static void newObject() {
        DoubtSale x = new DoubtSale();
        isAsAtFirst("a new object", x, 0);
        Check.due("count(0)", x.count(0), 1);
        Check.due("count(1)", x.count(1), 0);
        Check.due("count(2)", x.count(2), 0);
        Check.due("trace()", x.trace(), 0);
        Check.due("learnt()", x.learnt(), -9);
        Check.due("clear()", x.clear(), 0);
        Check.due("whole(1, 0) there is no second buyer", x.whole(1, 0), -1);
        Check.due("offers(0, 0)", x.offers(0, 0), 0);
        Check.due("offers(0, 1)", x.offers(0, 1), 1);
        Check.due("average(0, 0)", x.average(0, 0), 0);
        Check.due("average(0, 1)", x.average(0, 1), 1);
    }

    private static void objectsByThemselves() {
        DoubtSale one = new DoubtSale();
        one.buyers(3);
        one.book(0, 9, 9);
        one.reserve(8);
        one.sample(7);
        one.pay(2, 60, 0, 0);
        Look.same("a second object", new DoubtSale(), new DoubtSale());
        isAsAtFirst("a second object", new DoubtSale(), 0);
        Check.due("trace() of a second object", new DoubtSale().trace(), 0);
        Check.due("trace() of the first", one.trace(), 111);
    }

    /** "How many there were": the number before, whatever was refused between. */
    private static void buyersThereWere() {
        DoubtSale x = new DoubtSale();
        Check.due("buyers(1)", x.buyers(1), 1);
        Check.due("buyers(3)", x.buyers(3), 1);
        Check.due("buyers(4)", x.buyers(4), -1);
        Check.due("buyers(0)", x.buyers(0), -1);
        Check.due("buyers(3)", x.buyers(3), 3);
        Check.due("buyers(2)", x.buyers(2), 3);
        Check.due("buyers(1)", x.buyers(1), 2);
        Check.due("count(0)", x.count(0), 1);
    }

    /** "BOOKS as at first": for more buyers, for fewer, for as many. */
    private static void booksAsAtFirst() {
        for (int before = 1; before <= 3; before++) {
            for (int after = 1; after <= 3; after++) {
                DoubtSale x = new DoubtSale();
                x.buyers(before);
                for (int b = 0; b < before; b++) {
                    fill(x, b, 3, 9, 4, 8, 5, 7, 6, 6, 1000, 5);
                }
                Check.due("buyers(" + after + ")", x.buyers(after), before);
                for (int b = 0; b < after; b++) {
                    isAsAtFirst(before + " buyers, then " + after, x, b);
                }
                Check.due("brings(0)", x.brings(0), 0);
                Check.due("average(0, 0)", x.average(0, 0), 0);
                x.buyers(3);
                for (int b = 0; b < 3; b++) {
                    isAsAtFirst(before + " buyers, then " + after + ", then 3", x, b);
                }
            }
        }
    }

    /** "(RESERVE, SAMPLES stay)"; and nothing says that THE TRACE goes. */
    private static void reserveSamplesAndTraceStay() {
        DoubtSale x = new DoubtSale();
        x.reserve(1000);
        x.sample(30);
        x.sample(20);
        x.pay(1, 1000, 0, 0);
        x.buyers(2);
        x.buyers(1);
        Check.due("count(1)", x.count(1), 1000);
        Check.due("count(2)", x.count(2), 2);
        Check.due("learnt()", x.learnt(), 20);
        Check.due("trace()", x.trace(), 11);
    }

    /** "A BOOK is begun with its first worth: 1": a full one as well, and a lesser worth may follow; others stay. */
    private static void bookIsBegun() {
        DoubtSale x = new DoubtSale();
        x.buyers(2);
        fill(x, 0, 600, 1, 700, 2, 800, 3, 900, 4, 1000, 5);
        fill(x, 1, 2, 2, 3, 3);
        Check.due("book(0, 10, 6)", x.book(0, 10, 6), 1);
        Check.due("whole(0, 0)", x.whole(0, 0), 1);
        Check.due("whole(0, 1)", x.whole(0, 1), 6);
        for (int i = 1; i < 6; i++) {
            Check.due("about(0, " + i + ", 0)", x.about(0, i, 0), -1);
            Check.due("slope(0, " + i + ", true, 0)", x.slope(0, i, true, 0), DoubtSale.NO);
        }
        Check.due("about(0, 0, 2)", x.about(0, 0, 2), 6);
        Check.due("slope(0, 0, false, 0)", x.slope(0, 0, false, 0), 10);
        Check.due("more(0, 11, 1) below the former second", x.more(0, 11, 1), 2);
        Check.due("about(0, 0, 2)", x.about(0, 0, 2), 7);
        Check.due("whole(1, 0) of the other", x.whole(1, 0), 2);
        Check.due("book(0, 10, 6) again", x.book(0, 10, 6), 1);
    }

    /** "How many there are", "not above the last one, too", FULL behind five; each BOOK by itself. */
    private static void moreTellsHowMany() {
        DoubtSale x = new DoubtSale();
        x.buyers(3);
        for (int b = 0; b < 3; b++) {
            for (int many = 2; many <= 5; many++) {
                int above = 10 * many;
                Check.due("more to have " + many, x.more(b, above, many), many);
                Check.due("more like the last one", x.more(b, above, 1), -1);
                Check.due("more below the last one", x.more(b, above - 1, 1), -1);
                Check.due("more like the first one", x.more(b, 0, 1), -1);
                Check.due("whole(" + b + ", 0)", x.whole(b, 0), many);
            }
            Check.due("a sixth one", x.more(b, 51, 1), -3);
            Check.due("whole(" + b + ", 0) full", x.whole(b, 0), 5);
            Check.due("whole(" + b + ", 1) full", x.whole(b, 1), 15);
        }
        x.book(1, 50, 1);
        Check.due("one above the last one", x.more(1, 51, 1), 2);
        Check.due("whole(0, 0) of the one ahead", x.whole(0, 0), 5);
        Check.due("whole(2, 0) of the one behind", x.whole(2, 0), 5);
        x.book(0, 1000, 1);
        Check.due("none is above 1000", x.more(0, 1001, 1), -1);
    }

    /** "0 .. 1000", "1 .. 9": both ends are taken and told. */
    private static void leastAndGreatestNumbers() {
        DoubtSale x = of(0, 9, 1000, 1);
        int[][] due = {{0, 9, 10, 0}, {1000, 1, 1, 1000}};
        for (int i = 0; i < 2; i++) {
            for (int what = 0; what < 4; what++) {
                Check.due("about(0, " + i + ", " + what + ")", x.about(0, i, what), due[i][what]);
            }
        }
        Check.due("book(0, 1000, 1)", x.book(0, 1000, 1), 1);
        Check.due("book(0, 0, 9)", x.book(0, 0, 9), 1);
        Check.due("more(0, 999, 9)", x.more(0, 999, 9), 2);
        Check.due("more(0, 1000, 9)", x.more(0, 1000, 9), 3);
    }

    /** "weights of it and all greater ones together", "worth times SHARE": first, last, greatest. */
    private static void shareAndTake() {
        DoubtSale x = of(996, 9, 997, 9, 998, 9, 999, 9, 1000, 9);
        Check.due("whole(0, 1)", x.whole(0, 1), 45);
        for (int i = 0; i < 5; i++) {
            Check.due("SHARE " + i, x.about(0, i, 2), 45 - 9 * i);
            Check.due("TAKE " + i, x.about(0, i, 3), (996 + i) * (45 - 9 * i));
        }
        Check.due("place of BEST PRICE", x.whole(0, 2), 0);
    }

    /** "of several the least": two, three, all; 0 is a TAKE too. */
    private static void bestPriceOfSeveralTheLeast() {
        Check.due("one worth of 0", of(0, 9).whole(0, 2), 0);
        Check.due("one worth", of(1000, 9).whole(0, 2), 0);
        Check.due("TAKES 0 and 1", of(0, 9, 1, 1).whole(0, 2), 1);
        Check.due("TAKES 20, 20", of(10, 1, 20, 1).whole(0, 2), 0);
        Check.due("TAKES 20, 21", of(10, 1, 21, 1).whole(0, 2), 1);
        Check.due("TAKES 20, 19", of(10, 1, 19, 1).whole(0, 2), 0);
        Check.due("TAKES 60, 60, 60, 60, 60", of(12, 1, 15, 1, 20, 1, 30, 1, 60, 1).whole(0, 2), 0);
        Check.due("TAKES 55, 60, 57, 60, 60", of(11, 1, 15, 1, 19, 1, 30, 1, 60, 1).whole(0, 2), 1);
        Check.due("TAKES 55, 56, 57, 58, 60", of(11, 1, 14, 1, 19, 1, 29, 1, 60, 1).whole(0, 2), 4);
    }

    private static void slopes(String name, DoubtSale x, boolean ironed, long... uppersAndLowers) {
        for (int i = 0; i < uppersAndLowers.length / 2; i++) {
            for (int part = 0; part < 2; part++) {
                Check.due(name + ": slope(0, " + i + ", " + ironed + ", " + part + ")",
                        x.slope(0, i, ironed, part), uppersAndLowers[2 * i + part]);
            }
        }
    }

    /** "behind the last one TAKE is 0": the last worth's SLOPE is the worth itself, whatever its weight is. */
    private static void behindTheLastOneTakeIsNothing() {
        for (int weight = 1; weight <= 9; weight++) {
            slopes("one worth", of(7, weight), false, 7, 1);
            slopes("one worth", of(7, weight), true, 7, 1);
            DoubtSale x = of(0, 1, 1, 2, 2, 3, 3, 4, 1000, weight);
            Check.due("upper of the last of five", x.slope(0, 4, false, 0), 1000);
            Check.due("lower of the last of five", x.slope(0, 4, false, 1), 1);
            Check.due("upper of the last of five, ironed", x.slope(0, 4, true, 0), 1000);
        }
    }

    /** "in least form": 0 is 0 by 1; below 0 the sign stands above; what can't be made less stays. */
    private static void slopesInLeastForm() {
        slopes("0 by 9", of(10, 9, 20, 9), false, 0, 1, 20, 1);
        slopes("0 by 9, ironed", of(10, 9, 20, 9), true, 0, 1, 20, 1);
        // SHARES 12, 3; TAKES 12, 30: -18 by 9.
        slopes("-18 by 9", of(1, 9, 10, 3), false, -2, 1, 10, 1);
        // SHARES 7, 1; TAKES 7, 11: -4 by 6.
        slopes("-4 by 6", of(1, 6, 11, 1), false, -2, 3, 11, 1);
        slopes("-4 by 6, ironed", of(1, 6, 11, 1), true, -2, 3, 11, 1);
        // SHARES 9, 2; TAKES 9, 4: 5 by 7.
        slopes("5 by 7", of(1, 7, 2, 2), false, 5, 7, 2, 1);
        // SHARES 10, 1; TAKES 0, 1000: -1000 by 9.
        slopes("-1000 by 9", of(0, 9, 1000, 1), false, -1000, 9, 1000, 1);
        // SHARES 18, 9; TAKES 0, 9000.
        slopes("-9000 by 9", of(0, 9, 1000, 9), true, -1000, 1, 1000, 1);
    }

    /** "0 at SHARE 0": the last piece starts there, though TAKES ahead of it are lower than the line to there. */
    private static void ironedIsNothingAtShareNothing() {
        // SHARES 4, 3, 1; TAKES 40, 60, 21: 21, 39 by 2, -20.
        slopes("bent", of(10, 1, 20, 2, 21, 1), true, -20, 1, 39, 2, 21, 1);
        // SHARES 12, 3, 2, 1; TAKES 12, 27, 20, 11: 11, 9, 7, -15 by 9.
        slopes("bent at each", of(1, 9, 9, 1, 10, 1, 11, 1), true, -5, 3, 7, 1, 9, 1, 11, 1);
        // SHARES 1; TAKE 0 of worth 0.
        slopes("worth 0", of(0, 5), true, 0, 1);
    }

    /** "lies over all TAKES": one hollow, two by themselves, a wide one, one up to the first worth. */
    private static void ironedOverlooksHollows() {
        // SHARES 4, 3, 2, 1; TAKES 40, 33, 24, 100: one piece from SHARE 1 to SHARE 4.
        slopes("to the first", of(10, 1, 11, 1, 12, 1, 100, 1), true, -20, 1, -20, 1, -20, 1, 100, 1);
        slopes("to the first, plain", of(10, 1, 11, 1, 12, 1, 100, 1), false, 7, 1, 9, 1, -76, 1, 100, 1);
        // SHARES 12, 8, 4, 3, 1; TAKES 12, 72, 40, 60, 50: 50, 5, 12 by 5 twice, -15.
        DoubtSale x = of(1, 4, 9, 4, 10, 1, 20, 2, 50, 1);
        slopes("one hollow", x, true, -15, 1, 12, 5, 12, 5, 5, 1, 50, 1);
        slopes("one hollow, plain", x, false, -15, 1, 8, 1, -20, 1, 5, 1, 50, 1);
        // SHARES 9, 8, 5, 4, 3; TAKES 45, 48, 35, 48, 39: 13, 9, 0 twice, -3.
        x = of(5, 1, 6, 3, 7, 1, 12, 1, 13, 3);
        slopes("a hollow under a level piece", x, true, -3, 1, 0, 1, 0, 1, 9, 1, 13, 1);
    }

    /** A TAKE that stands on the hull's line is no bend: the SLOPE there is the one of the line. */
    private static void ironedThroughCornersInOneLine() {
        // SHARES 3, 2, 1; TAKES 9, 10, 11.
        slopes("one line", of(3, 1, 5, 1, 11, 1), true, -1, 1, -1, 1, 11, 1);
        slopes("one line, plain", of(3, 1, 5, 1, 11, 1), false, -1, 1, -1, 1, 11, 1);
        // SHARES 6, 4, 3, 1; TAKES 60 each.
        slopes("one level", of(10, 2, 15, 1, 20, 2, 60, 1), true, 0, 1, 0, 1, 0, 1, 60, 1);
        // SHARES 3, 2, 1; TAKES 15, 12, 9.
        slopes("one line upward", of(5, 1, 6, 1, 9, 1), true, 3, 1, 3, 1, 9, 1);
        // SHARES 4, 3, 2, 1; TAKES 8, 12, 14, 20: 14 stands under the line from 20 through 12 to 8.
        slopes("one line over a hollow", of(2, 1, 4, 1, 7, 1, 20, 1), true, -4, 1, -4, 1, -4, 1, 20, 1);
    }

    /** "So it never falls as worths rise": over very many BOOKS. */
    private static void ironedNeverFalls() {
        overManyBooks((x, many) -> {
            for (int i = 1; i < many; i++) {
                long before = x.slope(0, i - 1, true, 0) * x.slope(0, i, true, 1);
                long after = x.slope(0, i, true, 0) * x.slope(0, i - 1, true, 1);
                Check.due("IRONED " + i + " falls", before > after ? 1 : 0, 0);
            }
        });
    }

    /** "the least row that lies over all TAKES": never under a TAKE, on it wherever the row bends and at both ends. */
    private static void ironedIsTheLeastRow() {
        overManyBooks((x, many) -> {
            // 2520 is a multiple of each number up to 10, and no piece here is wider than 8: so nothing is cut off.
            long height = 0;
            for (int i = many - 1; i >= 0; i--) {
                long slope = 2520 * x.slope(0, i, true, 0) / x.slope(0, i, true, 1);
                height += slope * x.about(0, i, 1);
                long take = 2520L * x.about(0, i, 3);
                boolean isEnd = i == 0;
                boolean bends = !isEnd && 2520 * x.slope(0, i - 1, true, 0) / x.slope(0, i - 1, true, 1) != slope;
                Check.due("the row under TAKE " + i, height < take ? 1 : 0, 0);
                Check.due("the row bends off TAKE " + i, (bends || isEnd) && height != take ? 1 : 0, 0);
            }
        });
    }

    interface Seen {
        void at(DoubtSale x, int many);
    }

    /** All BOOKS of four worths under 7 with weights 1 and 2. */
    private static void overManyBooks(Seen seen) {
        for (int set = 0; set < 128; set++) {
            if (Integer.bitCount(set) != 4) {
                continue;
            }
            for (int weights = 0; weights < 16; weights++) {
                int[] told = new int[8];
                int many = 0;
                for (int worth = 0; worth < 7; worth++) {
                    if ((set >> worth & 1) == 1) {
                        told[2 * many] = worth;
                        told[2 * many + 1] = 1 + (weights >> many & 1);
                        many++;
                    }
                }
                seen.at(of(told), many);
            }
        }
    }
}
