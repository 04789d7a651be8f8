import java.lang.management.ManagementFactory;

/** No call throws, whatever it is told and in whatever state; and none makes objects, so that the room suffices. */
public final class AnyArgumentsTest {
    private static final int[] ODD = {
        Integer.MIN_VALUE, Integer.MIN_VALUE + 1, -1001, -9, -1, 0, 1, 2, 3, 4, 5, 6, 7, 9, 10, 11, 15, 19, 21, 27, 50,
        999, 1000, 1001, Integer.MAX_VALUE - 1, Integer.MAX_VALUE,
    };
    /** An object is used for so many calls; the last two of them are count's. */
    private static final int CALLS = 512;
    private static long seed = 7;
    private static long sum = 0;

    public static void main(String[] args) {
        for (int run = 0; run < 400; run++) {
            DoubtSale sale = new DoubtSale();
            for (int call = 0; call < CALLS - 2; call++) {
                sum += any(sale, call < 40 ? 3 : 21);
            }
            Check.due("more than three buyers or less than one", sale.count(0) >= 1 && sale.count(0) <= 3 ? 1 : 0, 1);
            Check.due("more than twelve samples", sale.count(2) <= 12 ? 1 : 0, 1);
        }
        room();
        System.out.println("sum of all answers " + sum);
        Check.end();
    }

    private static void room() {
        com.sun.management.ThreadMXBean bean = (com.sun.management.ThreadMXBean) ManagementFactory.getThreadMXBean();
        long self = Thread.currentThread().getId();
        DoubtSale sale = new DoubtSale();
        long before = bean.getThreadAllocatedBytes(self);
        for (int call = 0; call < 200000; call++) {
            sum += any(sale, 21);
        }
        long bytes = bean.getThreadAllocatedBytes(self) - before;
        Check.due("bytes made by calls (" + bytes + ") under a byte a call", bytes < 200000 ? 1 : 0, 1);
    }

    private static int next(int bound) {
        seed = seed * 6364136223846793005L + 1442695040888963407L;
        return (int) ((seed >>> 33) % bound);
    }

    private static int odd() {
        return next(3) == 0 ? ODD[next(ODD.length)] : next(4);
    }

    private static long any(DoubtSale x, int calls) {
        switch (next(calls)) {
            case 0: return x.buyers(odd());
            case 1: return x.book(odd(), odd(), odd());
            case 2: return x.more(odd(), next(1002), odd());
            case 3: return x.about(odd(), odd(), odd());
            case 4: return x.whole(odd(), odd());
            case 5: return x.slope(odd(), odd(), next(2) == 0, odd());
            case 6: return x.gets(odd(), odd(), odd());
            case 7: return x.pays(odd(), odd(), odd(), odd());
            case 8: return x.gain(odd(), odd(), odd(), odd(), odd());
            case 9: return x.brings(odd());
            case 10: return x.reserve(odd());
            case 11: return x.pay(odd(), odd(), odd(), odd());
            case 12: return x.average(odd(), odd());
            case 13: return x.offers(odd(), odd());
            case 14: return x.bundle(odd(), odd(), odd());
            case 15: return x.sample(odd());
            case 16: return next(10) == 0 ? x.clear() : 0;
            case 17: return x.learnt();
            case 18: return x.count(odd());
            case 19: return x.trace();
            default: return x.more(odd(), next(1002), odd());
        }
    }
}
