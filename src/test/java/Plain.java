/**
 * The document's sale told once more, as slowly and by as other ways as can be: hulls as the greatest slope to
 * the right of the least to the left, best offers by trying every row of prices, means as sums over all worths.
 */
final class Plain {
    final int n;
    final int[][] worths;
    final int[][] weights;
    final int reserve;

    Plain(int[][] worths, int[][] weights, int reserve) {
        this.n = worths.length;
        this.worths = worths;
        this.weights = weights;
        this.reserve = reserve;
    }

    int share(int b, int i) {
        int share = 0;
        for (int at = weights[b].length - 1; at >= i; at--) {
            share += weights[b][at];
        }
        return share;
    }

    int take(int b, int i) {
        return i < worths[b].length ? worths[b][i] * share(b, i) : 0;
    }

    int all(int b) {
        return share(b, 0);
    }

    /** Greater is the one of two fractions with lowers above 0. */
    static int compare(long[] one, long[] other) {
        return Long.compare(one[0] * other[1], other[0] * one[1]);
    }

    static long[] least(long upper, long lower) {
        for (long d = Math.min(Math.max(Math.abs(upper), 1), lower); d > 1; d--) {
            if (upper % d == 0 && lower % d == 0) {
                return new long[] {upper / d, lower / d};
            }
        }
        return upper == 0 ? new long[] {0, 1} : new long[] {upper, lower};
    }

    /** The least over starts with no greater SHARE of the greatest slope to ends with a greater SHARE. */
    long[] ironed(int b, int i) {
        long[] slope = null;
        for (int start = i + 1; start <= worths[b].length; start++) {
            long[] steepest = null;
            for (int end = 0; end <= i; end++) {
                long[] line = {take(b, end) - take(b, start), share(b, end) - share(b, start)};
                if (steepest == null || compare(line, steepest) > 0) {
                    steepest = line;
                }
            }
            if (slope == null || compare(steepest, slope) < 0) {
                slope = steepest;
            }
        }
        return least(slope[0], slope[1]);
    }

    int gets(int[] places) {
        for (int b = 0; b < n; b++) {
            boolean wins = ironed(b, places[b])[0] > 0;
            for (int other = 0; other < n; other++) {
                int order = compare(ironed(b, places[b]), ironed(other, places[other]));
                wins = wins && (order > 0 || order == 0 && b <= other);
            }
            if (wins) {
                return b;
            }
        }
        return DoubtSale.NONE;
    }

    int pays(int[] places, int buyer) {
        if (gets(places) != buyer) {
            return 0;
        }
        int[] told = places.clone();
        int least = Integer.MAX_VALUE;
        for (int t = 0; t < worths[buyer].length; t++) {
            told[buyer] = t;
            if (gets(told) == buyer) {
                least = Math.min(least, worths[buyer][t]);
            }
        }
        return least;
    }

    int gain(int[] places, int buyer, int t) {
        int[] told = places.clone();
        told[buyer] = t;
        return gets(told) == buyer ? worths[buyer][places[buyer]] - pays(told, buyer) : 0;
    }

    int pay(int kind, int[] told) {
        int who = 0;
        for (int b = 1; b < n; b++) {
            who = told[b] > told[who] ? b : who;
        }
        if (kind > 0 && told[who] < reserve) {
            return DoubtSale.NONE;
        }
        int price = 0;
        for (int b = 0; b < n; b++) {
            price = b != who && told[b] > price ? told[b] : price;
        }
        price = kind > 0 && price < reserve ? reserve : price;
        return kind == 2 ? price * 11 / 10 : price;
    }

    int pairs() {
        int pairs = 1;
        for (int b = 0; b < n; b++) {
            pairs *= worths[b].length;
        }
        return pairs;
    }

    int[] places(int number) {
        int[] places = new int[n];
        int rest = number;
        for (int b = 0; b < n; b++) {
            places[b] = rest % worths[b].length;
            rest /= worths[b].length;
        }
        return places;
    }

    long weight(int[] places) {
        long weight = 1;
        for (int b = 0; b < n; b++) {
            weight *= weights[b][places[b]];
        }
        return weight;
    }

    int[] worthsAt(int[] places) {
        int[] told = new int[n];
        for (int b = 0; b < n; b++) {
            told[b] = worths[b][places[b]];
        }
        return told;
    }

    long allPairs() {
        long all = 1;
        for (int b = 0; b < n; b++) {
            all *= all(b);
        }
        return all;
    }

    long[] brings() {
        long sum = 0;
        for (int p = 0; p < pairs(); p++) {
            for (int b = 0; b < n; b++) {
                sum += weight(places(p)) * pays(places(p), b);
            }
        }
        return least(sum, allPairs());
    }

    long[] average(int kind) {
        long sum = 0;
        for (int p = 0; p < pairs(); p++) {
            sum += weight(places(p)) * Math.max(0, pay(kind, worthsAt(places(p))));
        }
        return least(sum, allPairs());
    }

    /** What one row of prices brings, by buyers' numbers, over all pairs. */
    private long paidByPrices(int[] order, int[] prices) {
        long sum = 0;
        for (int p = 0; p < pairs(); p++) {
            int[] has = worthsAt(places(p));
            for (int b : order) {
                if (has[b] >= prices[b]) {
                    sum += weight(places(p)) * prices[b];
                    break;
                }
            }
        }
        return sum;
    }

    /** The mean's upper and lower part, then the prices of buyers 0, 1, ...: from the last on, the others' held. */
    long[] offers(int[] order) {
        int[] prices = new int[n];
        java.util.Arrays.fill(prices, 1001);
        for (int turn = n - 1; turn >= 0; turn--) {
            int b = order[turn];
            int best = 1001;
            long most = -1;
            for (int i = 0; i <= worths[b].length; i++) {
                prices[b] = i < worths[b].length ? worths[b][i] : 1001;
                long paid = paidByPrices(order, prices);
                if (paid > most) {
                    most = paid;
                    best = prices[b];
                }
            }
            prices[b] = best;
        }
        long[] mean = least(paidByPrices(order, prices), allPairs());
        long[] answer = new long[2 + n];
        answer[0] = mean[0];
        answer[1] = mean[1];
        for (int b = 0; b < n; b++) {
            answer[2 + b] = prices[b];
        }
        return answer;
    }

    int[] bundle(int one, int other) {
        int best = 0;
        int weight = 0;
        int product = -1;
        for (int sum = 0; sum <= 2000; sum++) {
            int come = 0;
            boolean isSum = false;
            for (int a = 0; a < worths[one].length; a++) {
                for (int b = 0; b < worths[other].length; b++) {
                    int has = worths[one][a] + worths[other][b];
                    come += has >= sum ? weights[one][a] * weights[other][b] : 0;
                    isSum = isSum || has == sum;
                }
            }
            if (isSum && sum * come > product) {
                best = sum;
                weight = come;
                product = sum * come;
            }
        }
        int alone = take(one, bestPlace(one)) * all(other) + take(other, bestPlace(other)) * all(one);
        return new int[] {best, weight, Integer.signum(product - alone)};
    }

    int bestPlace(int b) {
        int best = worths[b].length - 1;
        for (int i = best - 1; i >= 0; i--) {
            best = take(b, i) >= take(b, best) ? i : best;
        }
        return best;
    }
}
