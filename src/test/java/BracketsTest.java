/** Promise 16: row. */
public final class BracketsTest {
    public static void main(String[] args) {
        for (int n = 1; n <= 8; n++) {
            rowsOf(n);
        }
        someRows();
        wrongInputs();
        Due.end("BracketsTest");
    }

    /** The rows of all boxes are one in the middle each, rise by a sort a step, and hold every box once. */
    private static void rowsOf(int n) {
        int seen = 0;
        int firsts = 0;
        for (int set = 0; set < 1 << n; set++) {
            String of = "n " + n + ", row(" + set;
            NoneWithin x = new NoneWithin();
            x.sorts(n);
            int first = x.row(set, 1);
            Due.due(of + ", 2) sorts", Integer.bitCount(x.row(set, 2)), n / 2);
            Due.due(of + ", 3)", x.row(set, 3), n - 2 * Integer.bitCount(first) + 1);
            if (first == set) {
                firsts++;
                seen += x.row(set, 3);
            }
            int next = x.row(set, 0);
            if (next != -1) {
                Due.due(of + ", 0) has it", next & set, set);
                Due.due(of + ", 0) sorts", Integer.bitCount(next), Integer.bitCount(set) + 1);
                Due.due(of + ", 0) FIRST", x.row(next, 1), first);
                Due.due(of + ", 0) MIDDLE", x.row(next, 2), x.row(set, 2));
            } else {
                Due.due(of + ") last", Integer.bitCount(set), n - Integer.bitCount(first));
            }
        }
        Due.due("n " + n + ": boxes in rows", seen, 1 << n);
        Due.due("n " + n + ": rows", firsts, new NoneWithin().greatest(n));
    }

    private static void told(NoneWithin x, int set, int next, int first, int middle, int many) {
        Due.due("row(" + set + ", 0)", x.row(set, 0), next);
        Due.due("row(" + set + ", 1)", x.row(set, 1), first);
        Due.due("row(" + set + ", 2)", x.row(set, 2), middle);
        Due.due("row(" + set + ", 3)", x.row(set, 3), many);
    }

    private static void someRows() {
        NoneWithin x = new NoneWithin();
        x.sorts(6);
        // Sorts from 0: ) ( ( ) ( ( , of which 2 and 3 are matched.
        told(x, 9, 11, 8, 11, 5);
        told(x, 11, 27, 8, 11, 5);
        told(x, 59, -1, 8, 11, 5);
        // ( ( ) ) ( ) is matched whole.
        told(x, 44, -1, 44, 44, 1);
        told(x, 0, 1, 0, 7, 7);
        x.sorts(7);
        told(x, 127, -1, 0, 7, 8);
        // ) ) ( ( ) ( ( : 3 and 4 are matched.
        told(x, 19, 23, 16, 19, 6);
    }

    private static void refused(NoneWithin x, int set, int what) {
        Due.refused(x, "row(" + set + ", " + what + ")", NoneWithin.BAD, -10, y -> y.row(set, what));
    }

    private static void wrongInputs() {
        NoneWithin x = new NoneWithin();
        refused(x, 16, 0);
        refused(x, -1, 0);
        refused(x, 0, 4);
        refused(x, 0, -1);
    }
}
