/** Promises 21 to 25: greatest, shared, several, things, middle. */
public final class NumbersTest {
    public static void main(String[] args) {
        greatest();
        shared();
        several();
        things();
        wrongInputs();
        Due.end("NumbersTest");
    }

    private static void greatest() {
        NoneWithin x = new NoneWithin();
        long[] first = {1, 1, 2, 3, 6, 10, 20, 35, 70, 126, 252};
        for (int n = 0; n < first.length; n++) {
            Due.due("greatest(" + n + ")", x.greatest(n), first[n]);
        }
        for (int n = 2; n <= 60; n += 2) {
            Due.due("greatest(" + n + ") by the one before", x.greatest(n), 2 * x.greatest(n - 1));
        }
        Due.due("greatest(60)", x.greatest(60), 118264581564861424L);
    }

    private static void shared() {
        NoneWithin x = new NoneWithin();
        Due.due("shared(2, 1)", x.shared(2, 1), 1);
        Due.due("shared(60, 1)", x.shared(60, 1), 1);
        Due.due("shared(60, 2)", x.shared(60, 2), 59);
        Due.due("shared(7, 3)", x.shared(7, 3), 15);
        Due.due("shared(6, 3)", x.shared(6, 3), 10);
        Due.due("shared(60, 29)", x.shared(60, 29), choose(59, 28));
        Due.due("shared(60, 30)", x.shared(60, 30), 59132290782430712L);
    }

    private static long choose(int n, int k) {
        java.math.BigInteger found = java.math.BigInteger.ONE;
        for (int i = 1; i <= k; i++) {
            found = found.multiply(java.math.BigInteger.valueOf(n - i + 1)).divide(java.math.BigInteger.valueOf(i));
        }
        return found.longValueExact();
    }

    private static void several() {
        NoneWithin x = new NoneWithin();
        for (int sort = 0; sort < 8; sort++) {
            Due.due("several(" + sort + ", 9)", x.several(sort, 9), 0);
            Due.due("several(" + sort + ", 1)", x.several(sort, 1), 9);
        }
        Due.due("middle(1)", x.middle(1), 8);
        Due.due("n is not asked", x.count(0), 4);
        x.sorts(1);
        Due.due("middle(1) of another n", x.middle(1), 8);
    }

    private static void things() {
        NoneWithin x = new NoneWithin();
        Due.due("things(0) of none", x.things(0), 1);
        Due.due("things(1) of none", x.things(1), 0);
        Due.due("things(72) of none", x.things(72), 0);
        Due.due("middle(0) of none", x.middle(0), 0);
        // One of each: the numbers of boxes by size.
        for (int sort = 0; sort < 8; sort++) {
            x.several(sort, 1);
        }
        for (int s = 0; s <= 72; s++) {
            Due.due("things(" + s + ")", x.things(s), s <= 8 ? choose(8, s) : 0);
        }
        Due.due("middle(0)", x.middle(0), 4);
        x.several(7, 0);
        // 3 and 4 are both the most: the least.
        Due.due("middle(0)", x.middle(0), 3);
        Due.due("middle(1)", x.middle(1), 7);
        // 60 = 2 2 3 5 has divisors by how many primes: 1 3 4 3 1.
        x = new NoneWithin();
        x.several(0, 2);
        x.several(3, 1);
        x.several(7, 1);
        long[] divisors = {1, 3, 4, 3, 1, 0};
        for (int s = 0; s < 6; s++) {
            Due.due("things(" + s + ")", x.things(s), divisors[s]);
        }
        Due.due("middle(0)", x.middle(0), 2);
        x = new NoneWithin();
        x.several(0, 1);
        x.several(7, 1);
        Due.due("middle(0) of 1 and 1", x.middle(0), 1);
        // Nine of one sort alone: each number once, so the least is none.
        x = new NoneWithin();
        x.several(5, 9);
        Due.due("middle(0) of one sort", x.middle(0), 0);
        Due.due("things(9) of one sort", x.things(9), 1);
        Due.due("things(10) of one sort", x.things(10), 0);
        x.several(6, 2);
        Due.due("middle(0) of 9 and 2", x.middle(0), 2);
        Due.due("things(2) of 9 and 2", x.things(2), 3);
    }

    private static void wrongInputs() {
        NoneWithin x = new NoneWithin();
        x.several(3, 3);
        Due.bad(x, "greatest(-1)", y -> y.greatest(-1));
        Due.bad(x, "greatest(61)", y -> y.greatest(61));
        Due.bad(x, "shared(2, 0)", y -> y.shared(2, 0));
        Due.bad(x, "shared(1, 1)", y -> y.shared(1, 1));
        Due.bad(x, "shared(59, 30)", y -> y.shared(59, 30));
        Due.bad(x, "shared(61, 2)", y -> y.shared(61, 2));
        Due.bad(x, "shared(60, 31)", y -> y.shared(60, 31));
        Due.bad(x, "shared(0, 1 << 30 and more)", y -> y.shared(0, 1 << 31));
        Due.bad(x, "several(-1, 0)", y -> y.several(-1, 0));
        Due.bad(x, "several(8, 0)", y -> y.several(8, 0));
        Due.bad(x, "several(0, -1)", y -> y.several(0, -1));
        Due.bad(x, "several(0, 10)", y -> y.several(0, 10));
        Due.bad(x, "things(-1)", y -> y.things(-1));
        Due.bad(x, "things(73)", y -> y.things(73));
        Due.bad(x, "middle(-1)", y -> y.middle(-1));
        Due.bad(x, "middle(2)", y -> y.middle(2));
    }
}
