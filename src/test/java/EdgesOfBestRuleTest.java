/** Promises 8 to 11 and "THE BEST RULE", sentence by sentence, at the edges; what is refused is RefusedTest's. */
public final class EdgesOfBestRuleTest {
    public static void main(String[] args) {
        noOneIfNoneIsAboveNothing();
        ofSeveralTheLeastBuyer();
        greatestSlopeNotGreatestWorth();
        slopesThatDifferByLittle();
        paysTheLeastWorthWithWhichItWouldBeGot();
        tiesArePaidByPlace();
        othersPayNothing();
        gainIsWhatItIsWorthLessWhatIsPaid();
        gainOfTheWorthItHas();
        bringsInLeastForm();
        bringsOfGreatestBooks();
        Check.end();
    }

    /** Each row is a buyer's BOOK: worth, weight, worth, weight ... */
    private static DoubtSale of(int[]... books) {
        DoubtSale x = new DoubtSale();
        x.buyers(books.length);
        for (int b = 0; b < books.length; b++) {
            x.book(b, books[b][0], books[b][1]);
            for (int i = 2; i < books[b].length; i += 2) {
                x.more(b, books[b][i], books[b][i + 1]);
            }
        }
        return x;
    }

    private static int[] b(int... worthsAndWeights) {
        return worthsAndWeights;
    }

    private static void brings(String name, DoubtSale x, long upper, long lower) {
        Check.due(name + ": brings(0)", x.brings(0), upper);
        Check.due(name + ": brings(1)", x.brings(1), lower);
    }

    /** "if it is above 0", "no one, if none is above 0": 0 itself, below 0, and the least above 0; all pay 0 then. */
    private static void noOneIfNoneIsAboveNothing() {
        DoubtSale x = of(b(0, 1), b(0, 9), b(0, 5));
        Check.due("worths of 0", x.gets(0, 0, 0), -9);
        brings("worths of 0", x, 0, 1);
        // IRONED 0, 20; -1, 11; 0, 1.
        x = of(b(10, 1, 20, 1), b(5, 1, 11, 1), b(0, 1));
        Check.due("0, below 0, 0", x.gets(0, 0, 0), -9);
        for (int buyer = 0; buyer < 3; buyer++) {
            Check.due("pays(0, 0, 0, " + buyer + ")", x.pays(0, 0, 0, buyer), 0);
        }
        Check.due("gain(0, 0, 0, 1, 0)", x.gain(0, 0, 0, 1, 0), 0);
        // Buyer 2 has nothing above 0, the others only their greater worths: 3 of 4 times something is paid.
        brings("0, below 0, 0", x, 51, 4);
        // SHARES 17, 8; TAKES 17, 16.
        x = of(b(1, 9, 2, 8), b(0, 1));
        Check.due("1 by 9 is above 0", x.gets(0, 0, 0), 0);
        Check.due("pays(0, 0, 0, 0)", x.pays(0, 0, 0, 0), 1);
        Check.due("one buyer, 0", of(b(10, 1, 20, 1)).gets(0, 0, 0), -9);
        Check.due("one buyer, above 0", of(b(10, 1, 20, 1)).gets(1, 0, 0), 0);
        Check.due("one buyer, 1 of 1", of(b(1, 1)).gets(0, 0, 0), 0);
    }

    /** "of several the least buyer": two of two, each two of three, three of three; by unlike fractions too. */
    private static void ofSeveralTheLeastBuyer() {
        Check.due("7, 7", of(b(7, 1), b(7, 9)).gets(0, 0, 0), 0);
        Check.due("7, 7, 7", of(b(7, 1), b(7, 9), b(7, 2)).gets(0, 0, 0), 0);
        Check.due("7, 7, 6", of(b(7, 1), b(7, 9), b(6, 2)).gets(0, 0, 0), 0);
        Check.due("7, 6, 7", of(b(7, 1), b(6, 9), b(7, 2)).gets(0, 0, 0), 0);
        Check.due("6, 7, 7", of(b(6, 1), b(7, 9), b(7, 2)).gets(0, 0, 0), 1);
        Check.due("6, 7, 8", of(b(6, 1), b(7, 9), b(8, 2)).gets(0, 0, 0), 2);
        Check.due("8, 7, 8", of(b(8, 1), b(7, 9), b(8, 2)).gets(0, 0, 0), 0);
        // SHARES 6, 2 and 12, 4: the same SLOPE by other numbers.
        DoubtSale x = of(b(2, 4, 3, 2), b(2, 8, 3, 4));
        Check.due("upper of the first", x.slope(0, 0, true, 0), x.slope(1, 0, true, 0));
        Check.due("6 by 4 and 12 by 8", x.gets(0, 0, 0), 0);
        x = of(b(3, 1, 4, 1), b(2, 2), b(2, 9));
        Check.due("2, 2, 2 by unlike books", x.gets(0, 0, 0), 0);
    }

    /** It is the SLOPE that is asked, not the worth; and IRONED, not plain. */
    private static void greatestSlopeNotGreatestWorth() {
        // IRONED 9 of worth 9, -1 of worth 10.
        DoubtSale x = of(b(10, 1, 21, 1), b(9, 1));
        Check.due("worth 10 by -1, worth 9 by 9", x.gets(0, 0, 0), 1);
        Check.due("worth 21 by 21", x.gets(1, 0, 0), 0);
        // Plain 7, 9, -76, 100; IRONED -20 thrice, 100.
        x = of(b(10, 1, 11, 1, 12, 1, 100, 1), b(1, 1));
        for (int i = 0; i < 3; i++) {
            Check.due("gets(" + i + ", 0, 0)", x.gets(i, 0, 0), 1);
        }
        Check.due("gets(3, 0, 0)", x.gets(3, 0, 0), 0);
        // A worth of 0 with the least weight never gets it.
        Check.due("0 and 1", of(b(0, 1), b(1, 1)).gets(0, 0, 0), 1);
    }

    /** Fractions are compared exactly, however near they stand. */
    private static void slopesThatDifferByLittle() {
        // SHARES 17, 8; TAKES 16983, 8000: 8983 by 9 is 998 and 1 by 9.
        DoubtSale x = of(b(999, 9, 1000, 8), b(998, 1));
        Check.due("upper", x.slope(0, 0, true, 0), 8983);
        Check.due("lower", x.slope(0, 0, true, 1), 9);
        Check.due("998 and 1 by 9 against 998", x.gets(0, 0, 0), 0);
        Check.due("998 against 998 and 1 by 9", of(b(998, 1), b(999, 9, 1000, 8)).gets(0, 0, 0), 1);
        // SHARES 15, 7; TAKES 14985, 7000: 7985 by 8 is 998 and 1 by 8.
        x = of(b(999, 9, 1000, 8), b(999, 8, 1000, 7));
        Check.due("upper of the other", x.slope(1, 0, true, 0), 7985);
        Check.due("lower of the other", x.slope(1, 0, true, 1), 8);
        Check.due("1 by 9 against 1 by 8", x.gets(0, 0, 0), 1);
    }

    /** "the least worth of the own BOOK with which it would be got, the others' worths being as they are". */
    private static void paysTheLeastWorthWithWhichItWouldBeGot() {
        DoubtSale x = of(b(10, 1, 11, 2, 20, 1), b(5, 1, 30, 2));
        // Buyer 0: SHARES 4, 3, 1; TAKES 40, 33, 20: 20, then 20 by 3 to SHARE 4 twice. Buyer 1: TAKES 15, 60: -45, 30.
        Check.due("pays(2, 0, 0, 0) with any worth", x.pays(2, 0, 0, 0), 10);
        Check.due("pays(1, 0, 0, 0) with any worth", x.pays(1, 0, 0, 0), 10);
        Check.due("pays(0, 0, 0, 0) with any worth", x.pays(0, 0, 0, 0), 10);
        Check.due("pays(2, 1, 0, 1) with 30 alone", x.pays(2, 1, 0, 1), 30);
        x.book(1, 7, 1);
        Check.due("gets(1, 0, 0) 20 by 3 against 7", x.gets(1, 0, 0), 1);
        Check.due("pays(2, 0, 0, 0) with the last alone", x.pays(2, 0, 0, 0), 20);
        x.book(1, 6, 1);
        Check.due("pays(2, 0, 0, 0) 20 by 3 against 6", x.pays(2, 0, 0, 0), 10);
        Check.due("pays of one buyer: the least above 0", of(b(5, 1, 11, 1, 12, 2)).pays(2, 0, 0, 0), 11);
        // The worth of 0 with a SLOPE of 0 never does.
        Check.due("pays of one buyer of 0 and 1", of(b(0, 1, 1, 1)).pays(1, 0, 0, 0), 1);
        // The price hangs on the places of the others, not on their books alone.
        // IRONED 70 by 9, 10; 31 by 9, 9; 7 by 3, 9.
        x = of(b(8, 9, 10, 1), b(4, 9, 9, 1), b(3, 9, 9, 1));
        Check.due("pays(1, 0, 0, 0) by 70 by 9", x.pays(1, 0, 0, 0), 8);
        Check.due("pays(1, 1, 0, 0)", x.pays(1, 1, 0, 0), 10);
        Check.due("pays(1, 0, 1, 0)", x.pays(1, 0, 1, 0), 10);
        Check.due("pays(0, 1, 0, 1)", x.pays(0, 1, 0, 1), 9);
        Check.due("pays(0, 0, 1, 2)", x.pays(0, 0, 1, 2), 9);
    }

    /** A lesser buyer gets it by the same SLOPE and pays that worth; a greater one needs more. */
    private static void tiesArePaidByPlace() {
        int[] like = b(5, 2, 9, 1);
        // IRONED 3 and 9.
        DoubtSale x = of(like, like, like);
        Check.due("gets(0, 0, 0)", x.gets(0, 0, 0), 0);
        Check.due("pays(0, 0, 0, 0)", x.pays(0, 0, 0, 0), 5);
        Check.due("pays(1, 0, 0, 0)", x.pays(1, 0, 0, 0), 5);
        Check.due("pays(1, 1, 1, 0)", x.pays(1, 1, 1, 0), 9);
        Check.due("pays(0, 1, 0, 1) behind 0", x.pays(0, 1, 0, 1), 9);
        Check.due("pays(0, 1, 1, 1)", x.pays(0, 1, 1, 1), 9);
        Check.due("pays(0, 0, 1, 2)", x.pays(0, 0, 1, 2), 9);
        x = of(b(2, 1), like, like);
        Check.due("pays(0, 1, 0, 1) ahead of 2", x.pays(0, 1, 0, 1), 5);
        Check.due("pays(0, 0, 1, 2) behind 1", x.pays(0, 0, 1, 2), 9);
        x = of(b(2, 1), b(3, 1), like);
        Check.due("3 against 3", x.gets(0, 0, 0), 1);
        Check.due("pays(0, 0, 1, 2) 3 does not do", x.pays(0, 0, 1, 2), 9);
        x = of(b(2, 1), b(2, 1), like);
        Check.due("pays(0, 0, 1, 2) 3 does", x.pays(0, 0, 1, 2), 5);
    }

    /** "others pay 0": the buyers ahead of and behind who gets it, whatever they would pay elsewhere. */
    private static void othersPayNothing() {
        DoubtSale x = of(b(5, 2, 9, 1), b(6, 2, 10, 1), b(7, 2, 11, 1));
        for (int who = 0; who < 3; who++) {
            int i = who == 0 ? 1 : 0;
            int j = who == 1 ? 1 : 0;
            int k = who == 2 ? 1 : 0;
            Check.due("gets(" + i + ", " + j + ", " + k + ")", x.gets(i, j, k), who);
            for (int buyer = 0; buyer < 3; buyer++) {
                long pays = x.pays(i, j, k, buyer);
                Check.due("pays(" + i + ", " + j + ", " + k + ", " + buyer + ")", pays > 0 ? 1 : 0, buyer == who ? 1 : 0);
            }
        }
        // Each of the others would get it by its greater worth, and pay 20 then, but tells the lesser one.
        int[] rare = b(5, 2, 20, 1);
        int[] sure = b(7, 1);
        pays("the first has it", of(sure, rare, rare), 7, 0, 0);
        pays("the second has it", of(rare, sure, rare), 0, 7, 0);
        pays("the third has it", of(rare, rare, sure), 0, 0, 7);
        // All would get it, were they alone.
        x = of(b(20, 1), b(30, 1), b(10, 1));
        Check.due("pays(0, 0, 0, 0)", x.pays(0, 0, 0, 0), 0);
        Check.due("pays(0, 0, 0, 1)", x.pays(0, 0, 0, 1), 30);
        Check.due("pays(0, 0, 0, 2)", x.pays(0, 0, 0, 2), 0);
    }

    private static void pays(String name, DoubtSale x, int... due) {
        for (int buyer = 0; buyer < due.length; buyer++) {
            Check.due(name + ": pays(0, 0, 0, " + buyer + ")", x.pays(0, 0, 0, buyer), due[buyer]);
        }
    }

    /** "what it is worth, less what is paid, if it is got by what is told; else 0": above, at and below 0. */
    private static void gainIsWhatItIsWorthLessWhatIsPaid() {
        int[] like = b(5, 2, 9, 1);
        DoubtSale x = of(like, like, like);
        Check.due("told more, got, lost by it", x.gain(0, 1, 0, 0, 1), -4);
        Check.due("told more, got, paid as much as it is worth", x.gain(0, 0, 0, 0, 1), 0);
        Check.due("told less, got all the same", x.gain(1, 0, 0, 0, 0), 4);
        Check.due("told less, not got", x.gain(1, 1, 0, 0, 0), 0);
        Check.due("told less by the last buyer, not got", x.gain(0, 0, 1, 2, 0), 0);
        Check.due("told more by the last buyer, got", x.gain(0, 0, 0, 2, 1), -4);
        Check.due("told more, not got", x.gain(1, 0, 0, 1, 1), 0);
        x = of(b(0, 9, 1000, 9));
        Check.due("the greatest loss", x.gain(0, 0, 0, 0, 1), -1000);
        x = of(b(1, 1), b(1, 1, 2, 9));
        Check.due("told more by the second buyer", x.gain(0, 0, 0, 1, 1), -1);
        // SHARES 9, 8; TAKES 8991, 8000: 991 for the lesser worth.
        x = of(b(999, 1, 1000, 8));
        Check.due("the greatest worth, least price", x.gain(1, 0, 0, 0, 0), 1);
    }

    /** "of place t": t may be the place that it has; then the words are honest, and none gains more by others. */
    private static void gainOfTheWorthItHas() {
        DoubtSale x = of(b(5, 2, 9, 1), b(5, 2, 9, 1));
        Check.due("gain(1, 0, 0, 0, 1)", x.gain(1, 0, 0, 0, 1), 4);
        Check.due("gain(1, 1, 0, 0, 1)", x.gain(1, 1, 0, 0, 1), 0);
        Check.due("gain(0, 0, 0, 0, 0)", x.gain(0, 0, 0, 0, 0), 0);
        Check.due("gain(0, 1, 0, 1, 1)", x.gain(0, 1, 0, 1, 1), 0);
        Check.due("gain(0, 0, 0, 1, 0) not got", x.gain(0, 0, 0, 1, 0), 0);
    }

    /** "in the mean, by weights, in least form": nothing is 0 by 1, whole numbers by 1, what can't be made less stays. */
    private static void bringsInLeastForm() {
        brings("one worth", of(b(7, 9)), 7, 1);
        brings("0 of three", of(b(0, 9), b(0, 9), b(0, 9)), 0, 1);
        // 9 by one of 3, 5 else; of one buyer it is 5 each time.
        brings("one buyer, all above 0", of(b(5, 2, 9, 1)), 5, 1);
        brings("one buyer, 9 times of 10 nothing", of(b(0, 9, 1, 1)), 1, 10);
        brings("one buyer, 2 times of 3", of(b(1, 2, 10, 4)), 20, 3);
        // 9 if both have 9 or buyer 1 alone, 5 else: 3 of 9 times 9.
        brings("two like ones", of(b(5, 2, 9, 1), b(5, 2, 9, 1)), 19, 3);
        brings("buyers of unlike weights", of(b(10, 1, 21, 3), b(7, 5)), 35, 2);
    }

    /** The greatest weights and worths: nothing wraps around. */
    private static void bringsOfGreatestBooks() {
        int[] great = b(996, 9, 997, 9, 998, 9, 999, 9, 1000, 9);
        // The least IRONED SLOPE is 9 by .. far above 0: some one always pays 996 at least.
        DoubtSale x = of(great, great, great);
        long upper = x.brings(0);
        long lower = x.brings(1);
        Check.due("at least 996", upper >= 996 * lower ? 1 : 0, 1);
        Check.due("at most 1000", upper <= 1000 * lower ? 1 : 0, 1);
        Check.due("lower part divides 45 by 45 by 45", 91125 % lower, 0);
        Check.due("gets(4, 4, 4)", x.gets(4, 4, 4), 0);
        Check.due("pays(4, 4, 4, 0)", x.pays(4, 4, 4, 0), 1000);
        Check.due("pays(3, 3, 4, 2)", x.pays(3, 3, 4, 2), 1000);
        brings("1000 each", of(b(1000, 9), b(1000, 9), b(1000, 9)), 1000, 1);
    }
}
