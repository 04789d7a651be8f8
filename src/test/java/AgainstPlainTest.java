/** Every answer about many books, against the sale told once more in Plain. */
public final class AgainstPlainTest {
    private static final int ROUNDS = 150;
    private static final int[][][] ORDERS = {
        {}, {{0}}, {{0, 1}, {1, 0}},
        {{0, 1, 2}, {0, 2, 1}, {1, 0, 2}, {1, 2, 0}, {2, 0, 1}, {2, 1, 0}},
    };
    private static long seed = 20261118;

    public static void main(String[] args) {
        for (int round = 0; round < ROUNDS; round++) {
            int top = round % 3 == 0 ? 8 : round % 3 == 1 ? 40 : 1000;
            Plain plain = somePlain(1 + next(3), top);
            DoubtSale sale = saleOf(plain);
            books(round, plain, sale);
            brings(round, plain, fresh(plain, sale));
            bestRule(round, plain);
            rules(round, plain, saleOf(plain), top);
            offers(round, plain, saleOf(plain));
        }
        Check.end();
    }

    private static int next(int bound) {
        seed = seed * 6364136223846793005L + 1442695040888963407L;
        return (int) ((seed >>> 33) % bound);
    }

    private static Plain somePlain(int n, int top) {
        int[][] worths = new int[n][];
        int[][] weights = new int[n][];
        for (int b = 0; b < n; b++) {
            int size = 1 + next(5);
            worths[b] = new int[size];
            weights[b] = new int[size];
            int from = next(2) == 0 ? 0 : next(top / 2);
            for (int i = 0; i < size; i++) {
                int room = top - from - (size - 1 - i);
                worths[b][i] = from + next(Math.max(1, Math.min(room + 1, top / size + 1)));
                weights[b][i] = 1 + next(next(2) == 0 ? 9 : 2);
                from = worths[b][i] + 1;
            }
        }
        return new Plain(worths, weights, next(top + 1));
    }

    private static DoubtSale saleOf(Plain plain) {
        return fresh(plain, new DoubtSale());
    }

    /** The same object may be filled again: nothing of its former books is to be left. */
    private static DoubtSale fresh(Plain plain, DoubtSale sale) {
        sale.buyers(plain.n);
        sale.reserve(plain.reserve);
        for (int b = 0; b < plain.n; b++) {
            for (int i = 0; i < plain.worths[b].length; i++) {
                int many = i == 0 ? sale.book(b, plain.worths[b][i], plain.weights[b][i])
                        : sale.more(b, plain.worths[b][i], plain.weights[b][i]);
                Check.due("filling", many, i + 1);
            }
        }
        return sale;
    }

    private static void books(int round, Plain plain, DoubtSale sale) {
        for (int b = 0; b < plain.n; b++) {
            Check.due(round + ": whole(" + b + ", 0)", sale.whole(b, 0), plain.worths[b].length);
            Check.due(round + ": whole(" + b + ", 1)", sale.whole(b, 1), plain.all(b));
            Check.due(round + ": whole(" + b + ", 2)", sale.whole(b, 2), plain.bestPlace(b));
            for (int i = 0; i < plain.worths[b].length; i++) {
                String at = round + ": of " + b + ", " + i + ": ";
                Check.due(at + "worth", sale.about(b, i, 0), plain.worths[b][i]);
                Check.due(at + "weight", sale.about(b, i, 1), plain.weights[b][i]);
                Check.due(at + "share", sale.about(b, i, 2), plain.share(b, i));
                Check.due(at + "take", sale.about(b, i, 3), plain.take(b, i));
                long[] slope = Plain.least(plain.take(b, i) - plain.take(b, i + 1), plain.weights[b][i]);
                long[] ironed = plain.ironed(b, i);
                for (int part = 0; part < 2; part++) {
                    Check.due(at + "slope " + part, sale.slope(b, i, false, part), slope[part]);
                    Check.due(at + "ironed " + part, sale.slope(b, i, true, part), ironed[part]);
                }
            }
        }
    }

    private static void bestRule(int round, Plain plain) {
        for (int p = 0; p < plain.pairs(); p++) {
            // An object is used for 512 calls at most: so each row of places has one of its own.
            DoubtSale sale = saleOf(plain);
            int[] at = plain.places(p);
            int j = plain.n > 1 ? at[1] : 77;
            int k = plain.n > 2 ? at[2] : -77;
            String told = round + ": " + at[0] + ", " + j + ", " + k + ": ";
            Check.due(told + "gets", sale.gets(at[0], j, k), plain.gets(at));
            for (int b = 0; b < plain.n; b++) {
                Check.due(told + "pays " + b, sale.pays(at[0], j, k, b), plain.pays(at, b));
                for (int t = 0; t < plain.worths[b].length; t++) {
                    long gain = sale.gain(at[0], j, k, b, t);
                    Check.due(told + "gain " + b + ", " + t, gain, plain.gain(at, b, t));
                    Check.due(told + "honest words are best " + b + ", " + t,
                            gain <= sale.gain(at[0], j, k, b, at[b]) ? 1 : 0, 1);
                }
            }
        }
    }

    private static void brings(int round, Plain plain, DoubtSale sale) {
        long[] brings = plain.brings();
        Check.due(round + ": brings(0)", sale.brings(0), brings[0]);
        Check.due(round + ": brings(1)", sale.brings(1), brings[1]);
    }

    private static void rules(int round, Plain plain, DoubtSale sale, int top) {
        long trace = 0;
        for (int kind = 0; kind < 3; kind++) {
            for (int time = 0; time < 20; time++) {
                int[] told = {next(top + 1), next(top + 1), next(top + 1)};
                int due = plain.pay(kind, told);
                trace += due == DoubtSale.NONE ? 0 : new int[] {1, 11, 111}[kind];
                Check.due(round + ": pay " + kind, sale.pay(kind, told[0], told[1], told[2]), due);
            }
            long[] average = plain.average(kind);
            Check.due(round + ": average(" + kind + ", 0)", sale.average(kind, 0), average[0]);
            Check.due(round + ": average(" + kind + ", 1)", sale.average(kind, 1), average[1]);
        }
        Check.due(round + ": trace()", sale.trace(), trace);
    }

    private static void offers(int round, Plain plain, DoubtSale sale) {
        for (int[] order : ORDERS[plain.n]) {
            int number = 0;
            for (int b : order) {
                number = 3 * number + b;
            }
            long[] due = plain.offers(order);
            for (int what = 0; what < due.length; what++) {
                Check.due(round + ": offers(" + number + ", " + what + ")", sale.offers(number, what), due[what]);
            }
        }
        for (int one = 0; one < plain.n; one++) {
            for (int other = 0; other < plain.n; other++) {
                for (int what = 0; what < 3 && one != other; what++) {
                    Check.due(round + ": bundle(" + one + ", " + other + ", " + what + ")",
                            sale.bundle(one, other, what), plain.bundle(one, other)[what]);
                }
            }
        }
    }
}
