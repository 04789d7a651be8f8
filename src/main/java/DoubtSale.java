/**
 * Selling one thing to one to three buyers whose worths are known only by books of chances.
 * What each call must answer stands in ../shared/DOC.md; its words in capitals are used here in small letters.
 */
public final class DoubtSale {
    public static final int BAD = -1, STATE = -2, FULL = -3, NONE = -9;
    public static final long NO = -1000000000000000L;

    private static final int MOST_BUYERS = 3;
    private static final int MOST_WORTHS = 5;
    private static final int MOST_SAMPLES = 12;
    private static final int TOP_WORTH = 1000;
    private static final int TOP_WEIGHT = 9;
    private static final int NO_OFFER = 1001;
    // ALONE answers -1 as an ordinary number, so that a refused bundle needs another one than BAD.
    private static final int BUNDLE_BAD = -5;

    private static final int SECOND = 0;
    private static final int RESERVED = 1;
    private static final int FEED = 2;
    // Not one of the document's kinds: the best rule, where a mean is taken over it as over a kind.
    private static final int BEST_RULE = 3;

    // Euclid's steps for two longs stay under a hundred.
    private static final int DIVISOR_STEPS = 100;

    // Books of buyers that are not there stay as at first (one worth 0 of weight 1), so that a mean
    // may go over all three books whatever the number of buyers is.
    private final Book book0 = new Book();
    private final Book book1 = new Book();
    private final Book book2 = new Book();
    private final int[] samples = new int[MOST_SAMPLES];
    private int buyerCount = 1;
    private int sampleCount = 0;
    private int reservePrice = 0;
    private long traced = 0;

    public DoubtSale() {
    }

    // ---- books

    public int buyers(int n) {
        if (n < 1 || n > MOST_BUYERS) {
            return BAD;
        }
        int before = buyerCount;
        buyerCount = n;
        book0.begin(0, 1);
        book1.begin(0, 1);
        book2.begin(0, 1);
        return before;
    }

    public int book(int buyer, int worth, int weight) {
        if (!isBuyer(buyer) || !isWorth(worth) || !isWeight(weight)) {
            return BAD;
        }
        Book book = bookOf(buyer);
        book.begin(worth, weight);
        return book.size;
    }

    public int more(int buyer, int worth, int weight) {
        if (!isBuyer(buyer) || !isWorth(worth) || !isWeight(weight)) {
            return BAD;
        }
        Book book = bookOf(buyer);
        if (worth <= book.worthAt(book.size - 1)) {
            return BAD;
        }
        if (book.size >= MOST_WORTHS) {
            return FULL;
        }
        book.add(worth, weight);
        return book.size;
    }

    public int about(int buyer, int i, int what) {
        if (!isBuyer(buyer) || !bookOf(buyer).has(i)) {
            return BAD;
        }
        Book book = bookOf(buyer);
        switch (what) {
            case 0: return book.worthAt(i);
            case 1: return book.weightAt(i);
            case 2: return book.shareAt(i);
            case 3: return book.takeAt(i);
            default: return BAD;
        }
    }

    public int whole(int buyer, int what) {
        if (!isBuyer(buyer)) {
            return BAD;
        }
        Book book = bookOf(buyer);
        switch (what) {
            case 0: return book.size;
            case 1: return book.allWeights();
            case 2: return book.bestPlace();
            default: return BAD;
        }
    }

    public long slope(int buyer, int i, boolean ironed, int part) {
        if (!isBuyer(buyer) || !bookOf(buyer).has(i) || !isPart(part)) {
            return NO;
        }
        Book book = bookOf(buyer);
        if (ironed) {
            return leastPart(book.ironedUpper(i), book.ironedLower(i), part);
        }
        return leastPart(book.takeAt(i) - book.takeAt(i + 1), book.weightAt(i), part);
    }

    // ---- the best rule

    public int gets(int i, int j, int k) {
        if (!arePlaces(i, j, k)) {
            return BAD;
        }
        return winner(i, j, k);
    }

    public int pays(int i, int j, int k, int buyer) {
        if (!arePlaces(i, j, k) || !isBuyer(buyer)) {
            return BAD;
        }
        return winner(i, j, k) == buyer ? leastWinning(i, j, k, buyer) : 0;
    }

    public long gain(int i, int j, int k, int buyer, int t) {
        if (!arePlaces(i, j, k) || !isBuyer(buyer) || !bookOf(buyer).has(t)) {
            return NO;
        }
        if (!getsWith(t, i, j, k, buyer)) {
            return 0;
        }
        int own = bookOf(buyer).worthAt(pick(buyer, i, j, k));
        return own - leastWinning(i, j, k, buyer);
    }

    public long brings(int part) {
        if (!isPart(part)) {
            return NO;
        }
        return meanPaid(BEST_RULE, part);
    }

    // ---- rules by words

    public int reserve(int v) {
        if (!isWorth(v)) {
            return BAD;
        }
        int before = reservePrice;
        reservePrice = v;
        return before;
    }

    public int pay(int kind, int x, int y, int z) {
        if (!isKind(kind) || !areWorths(x, y, z)) {
            return BAD;
        }
        int price = paidByKind(kind, x, y, z);
        if (price != NONE) {
            traced += asksOf(kind);
        }
        return price;
    }

    public long average(int kind, int part) {
        if (!isKind(kind) || !isPart(part)) {
            return NO;
        }
        return meanPaid(kind, part);
    }

    // ---- offers, bundles, samples

    public long offers(int order, int what) {
        if (!isOrder(order) || !(isPart(what) || isBuyer(what - 2))) {
            return NO;
        }
        long upper = 0;
        long lower = 1;
        int rest = order;
        // The order's lowest digit is its last buyer, from whom the best prices are told.
        for (int turn = 0; turn < buyerCount; turn++) {
            int buyer = rest % 3;
            rest = rest / 3;
            Book book = bookOf(buyer);
            int place = bestOffer(book, upper, lower);
            if (buyer == what - 2) {
                return book.has(place) ? book.worthAt(place) : NO_OFFER;
            }
            upper = offerBrings(book, place, upper, lower);
            lower = lower * book.allWeights();
        }
        return leastPart(upper, lower, what);
    }

    public int bundle(int one, int other, int what) {
        if (!isBuyer(one) || !isBuyer(other) || one == other) {
            return BUNDLE_BAD;
        }
        Book left = bookOf(one);
        Book right = bookOf(other);
        int best = bestSum(left, right);
        int pairs = pairsFrom(left, right, best);
        switch (what) {
            case 0: return best;
            case 1: return pairs;
            case 2: return Integer.signum(best * pairs - bothAlone(left, right));
            default: return BUNDLE_BAD;
        }
    }

    public int sample(int v) {
        if (!isWorth(v)) {
            return BAD;
        }
        if (sampleCount >= MOST_SAMPLES) {
            return FULL;
        }
        samples[sampleCount] = v;
        sampleCount++;
        return sampleCount;
    }

    public int clear() {
        int before = sampleCount;
        sampleCount = 0;
        return before;
    }

    public int learnt() {
        int best = NONE;
        int bestProduct = -1;
        for (int s = 0; s < sampleCount; s++) {
            int product = samples[s] * samplesFrom(samples[s]);
            if (product > bestProduct || product == bestProduct && samples[s] < best) {
                best = samples[s];
                bestProduct = product;
            }
        }
        return best;
    }

    public int count(int what) {
        switch (what) {
            case 0: return buyerCount;
            case 1: return reservePrice;
            case 2: return sampleCount;
            default: return BAD;
        }
    }

    public long trace() {
        return traced;
    }

    // ---- what is as told

    private boolean isBuyer(int buyer) {
        return buyer >= 0 && buyer < buyerCount;
    }

    private static boolean isWorth(int worth) {
        return worth >= 0 && worth <= TOP_WORTH;
    }

    private static boolean isWeight(int weight) {
        return weight >= 1 && weight <= TOP_WEIGHT;
    }

    private static boolean isPart(int part) {
        return part == 0 || part == 1;
    }

    private static boolean isKind(int kind) {
        return kind >= SECOND && kind <= FEED;
    }

    private boolean arePlaces(int i, int j, int k) {
        for (int b = 0; b < buyerCount; b++) {
            if (!bookOf(b).has(pick(b, i, j, k))) {
                return false;
            }
        }
        return true;
    }

    private boolean areWorths(int x, int y, int z) {
        for (int b = 0; b < buyerCount; b++) {
            if (!isWorth(pick(b, x, y, z))) {
                return false;
            }
        }
        return true;
    }

    private boolean isOrder(int order) {
        if (order < 0) {
            return false;
        }
        int seen = 0;
        int rest = order;
        for (int turn = 0; turn < buyerCount; turn++) {
            int buyer = rest % 3;
            rest = rest / 3;
            if (!isBuyer(buyer) || (seen >> buyer & 1) == 1) {
                return false;
            }
            seen = seen | 1 << buyer;
        }
        return rest == 0;
    }

    private Book bookOf(int buyer) {
        return buyer == 0 ? book0 : buyer == 1 ? book1 : book2;
    }

    private static int pick(int buyer, int ofFirst, int ofSecond, int ofThird) {
        return buyer == 0 ? ofFirst : buyer == 1 ? ofSecond : ofThird;
    }

    // ---- the best rule, from within

    private int winner(int i, int j, int k) {
        int best = NONE;
        // Only a slope above that of no one, 0, can win; only a greater one takes it from a lesser buyer.
        long bestUpper = 0;
        long bestLower = 1;
        for (int b = 0; b < buyerCount; b++) {
            int place = pick(b, i, j, k);
            long upper = bookOf(b).ironedUpper(place);
            long lower = bookOf(b).ironedLower(place);
            if (upper * bestLower > bestUpper * lower) {
                best = b;
                bestUpper = upper;
                bestLower = lower;
            }
        }
        return best;
    }

    private boolean getsWith(int place, int i, int j, int k, int buyer) {
        return winner(buyer == 0 ? place : i, buyer == 1 ? place : j, buyer == 2 ? place : k) == buyer;
    }

    /** What a buyer pays that gets it; its own place is not looked at, for the price hangs on the others alone. */
    private int leastWinning(int i, int j, int k, int buyer) {
        Book book = bookOf(buyer);
        for (int place = 0; place < book.size; place++) {
            if (getsWith(place, i, j, k, buyer)) {
                return book.worthAt(place);
            }
        }
        return 0;
    }

    // ---- rules by words, from within

    private int paidByKind(int kind, int x, int y, int z) {
        int greatest = -1;
        int ofOthers = 0;
        for (int b = 0; b < buyerCount; b++) {
            int told = pick(b, x, y, z);
            ofOthers = Math.max(ofOthers, Math.min(told, greatest));
            greatest = Math.max(greatest, told);
        }
        if (kind != SECOND && greatest < reservePrice) {
            return NONE;
        }
        return priceOf(kind, ofOthers);
    }

    private int priceOf(int kind, int ofOthers) {
        int price = ofOthers;
        if (kind >= RESERVED) {
            price = Math.max(price, reservePrice);
        }
        if (kind >= FEED) {
            price = price + price / 10;
        }
        return price;
    }

    // A kind asks its own body and, by "up", that of each kind over it.
    private static int asksOf(int kind) {
        return kind == FEED ? 111 : kind == RESERVED ? 11 : 1;
    }

    // ---- means

    private long meanPaid(int rule, int part) {
        long upper = 0;
        for (int i = 0; i < book0.size; i++) {
            for (int j = 0; j < book1.size; j++) {
                for (int k = 0; k < book2.size; k++) {
                    long weight = (long) book0.weightAt(i) * book1.weightAt(j) * book2.weightAt(k);
                    upper += weight * paidAt(rule, i, j, k);
                }
            }
        }
        long lower = (long) book0.allWeights() * book1.allWeights() * book2.allWeights();
        return leastPart(upper, lower, part);
    }

    private int paidAt(int rule, int i, int j, int k) {
        if (rule == BEST_RULE) {
            int buyer = winner(i, j, k);
            return buyer == NONE ? 0 : leastWinning(i, j, k, buyer);
        }
        int price = paidByKind(rule, book0.worthAt(i), book1.worthAt(j), book2.worthAt(k));
        return price == NONE ? 0 : price;
    }

    private static long leastPart(long upper, long lower, int part) {
        long divisor = commonDivisor(Math.abs(upper), lower);
        if (divisor <= 0) {
            return NO;
        }
        return (part == 0 ? upper : lower) / divisor;
    }

    private static long commonDivisor(long one, long other) {
        long a = one;
        long b = other;
        for (int step = 0; step < DIVISOR_STEPS && b != 0; step++) {
            long rest = a % b;
            a = b;
            b = rest;
        }
        return a;
    }

    // ---- offers, bundles, samples, from within

    /** The place of the best price where upper / lower is still to be had from later buyers; behind the last: none. */
    private static int bestOffer(Book book, long upper, long lower) {
        int best = 0;
        for (int place = 1; place <= book.size; place++) {
            if (offerBrings(book, place, upper, lower) > offerBrings(book, best, upper, lower)) {
                best = place;
            }
        }
        return best;
    }

    /** The mean's upper part over lower times all the book's weights; behind the last place no one takes it. */
    private static long offerBrings(Book book, int place, long upper, long lower) {
        return book.takeAt(place) * lower + (book.allWeights() - book.shareAt(place)) * upper;
    }

    private static int bestSum(Book left, Book right) {
        int best = 0;
        int bestProduct = -1;
        for (int a = 0; a < left.size; a++) {
            for (int b = 0; b < right.size; b++) {
                int sum = left.worthAt(a) + right.worthAt(b);
                int product = sum * pairsFrom(left, right, sum);
                if (product > bestProduct || product == bestProduct && sum < best) {
                    best = sum;
                    bestProduct = product;
                }
            }
        }
        return best;
    }

    private static int pairsFrom(Book left, Book right, int sum) {
        int pairs = 0;
        for (int a = 0; a < left.size; a++) {
            for (int b = 0; b < right.size; b++) {
                if (left.worthAt(a) + right.worthAt(b) >= sum) {
                    pairs += left.weightAt(a) * right.weightAt(b);
                }
            }
        }
        return pairs;
    }

    // Both means are brought over the product of all weights, where the bundle's stands too.
    private static int bothAlone(Book left, Book right) {
        return left.takeAt(left.bestPlace()) * right.allWeights()
                + right.takeAt(right.bestPlace()) * left.allWeights();
    }

    private int samplesFrom(int worth) {
        int many = 0;
        for (int s = 0; s < sampleCount; s++) {
            if (samples[s] >= worth) {
                many++;
            }
        }
        return many;
    }

    /** Worths with weights; what stands behind the last place is 0. */
    private static final class Book {
        private final int[] worths = new int[MOST_WORTHS];
        private final int[] weights = new int[MOST_WORTHS];
        private final int[] uppers = new int[MOST_WORTHS];
        private final int[] lowers = new int[MOST_WORTHS];
        private int size = 0;

        Book() {
            begin(0, 1);
        }

        void begin(int worth, int weight) {
            worths[0] = worth;
            weights[0] = weight;
            size = 1;
            iron();
        }

        void add(int worth, int weight) {
            if (size >= MOST_WORTHS) {
                return;
            }
            worths[size] = worth;
            weights[size] = weight;
            size++;
            iron();
        }

        boolean has(int place) {
            return place >= 0 && place < size;
        }

        int worthAt(int place) {
            return place >= 0 && place < size ? worths[place] : 0;
        }

        int weightAt(int place) {
            return place >= 0 && place < size ? weights[place] : 0;
        }

        int shareAt(int place) {
            int share = 0;
            for (int i = Math.max(place, 0); i < size; i++) {
                share += weights[i];
            }
            return share;
        }

        int allWeights() {
            return shareAt(0);
        }

        int takeAt(int place) {
            return worthAt(place) * shareAt(place);
        }

        int bestPlace() {
            int best = 0;
            for (int i = 1; i < size; i++) {
                if (takeAt(i) > takeAt(best)) {
                    best = i;
                }
            }
            return best;
        }

        long ironedUpper(int place) {
            return place >= 0 && place < size ? uppers[place] : 0;
        }

        long ironedLower(int place) {
            return place >= 0 && place < size ? lowers[place] : 1;
        }

        // Kept, and not told anew each time, because the best rule asks for these slopes again and again.
        private void iron() {
            int corner = size;
            int rise = 0;
            int run = 1;
            for (int i = size - 1; i >= 0; i--) {
                if (i < corner) {
                    int next = nextCorner(corner);
                    rise = takeAt(next) - takeAt(corner);
                    run = shareAt(next) - shareAt(corner);
                    corner = next;
                }
                uppers[i] = rise;
                lowers[i] = run;
            }
        }

        // The hull goes from a corner to the place that is reached most steeply from there.
        private int nextCorner(int corner) {
            int best = corner - 1;
            for (int i = corner - 2; i >= 0; i--) {
                long rise = takeAt(i) - takeAt(corner);
                long run = shareAt(i) - shareAt(corner);
                long bestRise = takeAt(best) - takeAt(corner);
                long bestRun = shareAt(best) - shareAt(corner);
                if (rise * bestRun >= bestRise * run) {
                    best = i;
                }
            }
            return best;
        }
    }
}
