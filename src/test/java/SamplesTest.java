/** Promises 17 to 20: sample, clear, learnt, count. */
public final class SamplesTest {
    public static void main(String[] args) {
        DoubtSale x = new DoubtSale();
        Check.due("clear() of none", x.clear(), 0);
        Check.due("sample(-1)", x.sample(-1), -1);
        Check.due("sample(1001)", x.sample(1001), -1);
        Check.due("count(2) after refusals", x.count(2), 0);
        for (int many = 1; many <= 12; many++) {
            Check.due("sample(1000) " + many, x.sample(1000), many);
            Check.due("count(2) " + many, x.count(2), many);
        }
        Check.due("sample(0) full", x.sample(0), -3);
        Check.due("sample(1001) bad before full", x.sample(1001), -1);
        Check.due("count(2) full", x.count(2), 12);
        Check.due("learnt() of twelve", x.learnt(), 1000);
        Check.due("clear()", x.clear(), 12);
        Check.due("count(2) cleared", x.count(2), 0);
        Check.due("learnt() of none", x.learnt(), -9);
        Check.due("sample(0)", x.sample(0), 1);
        Check.due("learnt() of 0", x.learnt(), 0);
        learnt();
        count();
        Check.end();
    }

    private static void learnt() {
        learnt(new int[] {10, 5}, 5);
        learnt(new int[] {5, 10}, 5);
        learnt(new int[] {5, 11}, 11);
        learnt(new int[] {4, 4, 4, 12, 1}, 4);
        learnt(new int[] {12, 4, 4, 3}, 3);
        learnt(new int[] {6, 3, 2, 2}, 2);
        learnt(new int[] {6, 3, 1, 0}, 3);
        learnt(new int[] {0, 0, 0}, 0);
        learnt(new int[] {1, 2, 3, 4, 5, 6, 7, 8, 9, 10, 11, 12}, 6);
    }

    private static void learnt(int[] samples, int want) {
        DoubtSale x = new DoubtSale();
        StringBuilder text = new StringBuilder("learnt() of");
        for (int v : samples) {
            x.sample(v);
            text.append(' ').append(v);
        }
        Check.due(text.toString(), x.learnt(), want);
    }

    private static void count() {
        DoubtSale x = new DoubtSale();
        x.buyers(3);
        x.reserve(77);
        x.sample(1);
        x.sample(2);
        Check.due("count(0)", x.count(0), 3);
        Check.due("count(1)", x.count(1), 77);
        Check.due("count(2)", x.count(2), 2);
        Check.due("count(3)", x.count(3), -1);
        Check.due("count(-1)", x.count(-1), -1);
    }
}
