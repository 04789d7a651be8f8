import java.util.ArrayList;
import java.util.List;

/**
 * Everything that an object answers, so that a test can say that a call changed nothing. An object is used for 512
 * calls at most: so two objects are filled alike, one of them is told the call, and both are looked at.
 */
final class Look {
    private static final int[][] ORDERS = {{}, {0}, {1, 3}, {5, 7, 11, 15, 19, 21}};

    interface Filling {
        DoubtSale made();
    }

    interface Call {
        long on(DoubtSale x);
    }

    private Look() {
    }

    /** The call answers as is due and leaves all as it was. */
    static void unchanged(String name, Filling filling, Call call, long want) {
        DoubtSale told = filling.made();
        Check.due(name, call.on(told), want);
        same(name + " changed something", told, filling.made());
    }

    static void same(String name, DoubtSale one, DoubtSale other) {
        List<Long> of = all(one);
        List<Long> due = all(other);
        Check.due(name + ": " + of + " is not " + due, of.equals(due) ? 1 : 0, 1);
    }

    private static List<Long> all(DoubtSale x) {
        List<Long> seen = new ArrayList<>();
        for (int what = 0; what < 3; what++) {
            seen.add((long) x.count(what));
        }
        seen.add(x.trace());
        seen.add((long) x.learnt());
        int n = x.count(0);
        for (int b = 0; b < n; b++) {
            book(x, b, seen);
        }
        rules(x, n, seen);
        offers(x, n, seen);
        return seen;
    }

    private static void book(DoubtSale x, int b, List<Long> seen) {
        for (int what = 0; what < 3; what++) {
            seen.add((long) x.whole(b, what));
        }
        for (int i = 0; i < 5; i++) {
            for (int what = 0; what < 4; what++) {
                seen.add((long) x.about(b, i, what));
            }
            for (int part = 0; part < 2; part++) {
                seen.add(x.slope(b, i, false, part));
                seen.add(x.slope(b, i, true, part));
            }
        }
    }

    private static void rules(DoubtSale x, int n, List<Long> seen) {
        for (int places = 0; places < 8; places++) {
            int i = places & 1;
            int j = places >> 1 & 1;
            int k = places >> 2;
            seen.add((long) x.gets(i, j, k));
            for (int b = 0; b < n; b++) {
                seen.add((long) x.pays(i, j, k, b));
                seen.add(x.gain(i, j, k, b, 0));
            }
        }
        for (int part = 0; part < 2; part++) {
            seen.add(x.brings(part));
            for (int kind = 0; kind < 3; kind++) {
                seen.add(x.average(kind, part));
            }
        }
    }

    private static void offers(DoubtSale x, int n, List<Long> seen) {
        for (int order : ORDERS[n]) {
            for (int what = 0; what < 5; what++) {
                seen.add(x.offers(order, what));
            }
        }
        for (int one = 0; one < n; one++) {
            for (int other = 0; other < n; other++) {
                for (int what = 0; what < 3; what++) {
                    seen.add((long) x.bundle(one, other, what));
                }
            }
        }
    }
}
