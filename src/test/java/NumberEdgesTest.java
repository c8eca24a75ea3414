import java.math.BigInteger;

/** Promises 17 to 31 at the edges that the document names. */
public final class NumberEdgesTest {
    public static void main(String[] args) {
        moreAtTheEnds();
        moreOfEachSize();
        listsAtTheEnds();
        gameAtTheEnds();
        chanceAtTheEnds();
        rowsUsedAgain();
        greatestAll();
        sharedAll();
        severalAtTheEnds();
        thingsOfAll();
        middleOfOneSort();
        fractionAtFirst();
        imagesKeepAllBut();
        imagesOfEachNumber();
        digestOfAFullOne();
        lastOf512Calls();
        Due.end("NumberEdgesTest");
    }

    private static NoneWithin all(int n) {
        NoneWithin x = States.boxes(n);
        for (int set = 0; set < 1 << n; set++) {
            x.box(set, 1);
        }
        return x;
    }

    private static void moreAtTheEnds() {
        for (int n = 1; n <= 8; n++) {
            // Of the empty LIST the least is the empty box, but by SHARE and BOTH that of the first sort.
            NoneWithin x = States.boxes(n);
            for (int law = 0; law < 5; law++) {
                Due.due("n " + n + ": more(" + law + ")", x.more(law), law < 3 ? 0 : 1);
            }
            x.sizes(n, n);
            for (int law = 0; law < 5; law++) {
                Due.due("n " + n + ": more(" + law + ") of all sorts", x.more(law), (1 << n) - 1);
            }
            x.sizes(Math.min(8, n + 1), 8);
            Due.due("n " + n + ": more(0) of more sorts than there are", x.more(0), n == 8 ? 255 : -1);
            if (n <= 4) {
                Due.due("n " + n + ": more(0) where all are there", all(n).more(0), -1);
            }
        }
        // The last box of all is found, too; and one more to 16 that can not come is told.
        NoneWithin x = States.boxes(4, 0, 1, 2, 3, 4, 5, 6, 7, 8, 9, 10, 11, 12, 13, 14);
        Due.due("more(0), the last", x.more(0), 15);
        Due.due("more(0) of 16 of 5 sorts", States.full().more(0), 0);
        Due.due("more(3) of a", States.boxes(1, 1).more(3), -1);
        Due.due("more(3) of b of 8", States.boxes(8, 128).more(3), 129);
        // THE LIST itself is not LAWFUL: none, though a box alone would be.
        Due.due("more(1) of - and a", States.boxes(4, 0, 1).more(1), -1);
        Due.due("more(2) of -, a, ab", States.boxes(4, 0, 1, 3).more(2), -1);
        Due.due("more(3) of -", States.boxes(4, 0).more(3), -1);
        Due.due("more(4) of a and b", States.boxes(4, 1, 2).more(4), -1);
    }

    private static void moreOfEachSize() {
        for (int low = 0; low <= 8; low++) {
            for (int high = low; high <= 8; high++) {
                NoneWithin x = States.boxes(8);
                x.sizes(low, high);
                Due.due("more(0) in " + low + ".." + high, x.more(0), (1 << low) - 1);
                x.box((1 << low) - 1, 0);
                // Of all sorts there is one box; of one size alone the next one swaps its last sort for another.
                int next = low == 8 ? -1 : low == 0 ? high == 0 ? -1 : 1 : (1 << low) - 1 + (1 << (low - 1));
                Due.due("more(0) of one in " + low + ".." + high, x.more(0), next);
            }
        }
    }

    private static void listed(NoneWithin x, int law, int... want) {
        for (int what = 0; what < 4; what++) {
            Due.due("lists(" + law + ", " + what + ")", x.lists(law, what), want[what]);
        }
    }

    private static void listsAtTheEnds() {
        for (int n = 1; n <= 4; n++) {
            NoneWithin x = States.boxes(n, 1);
            x.sizes(n, n);
            for (int law = 0; law < 5; law++) {
                listed(x, law, 2, 1, 1, 1);
            }
            x.sizes(0, 0);
            for (int law = 0; law < 5; law++) {
                // By SHARE and BOTH none is empty, so the empty list is the only one.
                listed(x, law, law < 3 ? new int[] {2, 1, 1, 1} : new int[] {1, 1, 0, 0});
            }
            x.sizes(n + 1, 8);
            for (int law = 0; law < 5; law++) {
                listed(x, law, 1, 1, 0, 0);
            }
            x.sizes(1, 1);
            listed(x, 0, 1 << n, 1, n, n);
            listed(x, 1, 1 << n, 1, n, n);
            listed(x, 2, 1 << n, 1, n, n);
            listed(x, 3, n + 1, n, 1, 1);
            listed(x, 4, n + 1, n, 1, 1);
        }
        // Neither THE LIST nor whether it is LAWFUL is asked.
        NoneWithin x = States.boxes(4, 0, 1, 3, 7, 15);
        listed(x, 1, 168, 29, 1, 6);
    }

    private static void played(String of, NoneWithin x, int law, int wins, int by) {
        Due.due(of + ": game(" + law + ", 0)", x.game(law, 0), wins);
        Due.due(of + ": game(" + law + ", 1)", x.game(law, 1), by);
    }

    private static void gameAtTheEnds() {
        for (int n = 1; n <= 4; n++) {
            played("all of " + n, all(n), 0, 0, -1);
            NoneWithin x = States.boxes(n);
            x.sizes(n, n);
            for (int law = 0; law < 5; law++) {
                played("one may come of " + n, x, law, 1, (1 << n) - 1);
            }
            x.box((1 << n) - 1, 0);
            for (int law = 0; law < 5; law++) {
                played("none may come of " + n, x, law, 0, -1);
            }
            x.sorts(n);
            x.sizes(0, 0);
            for (int law = 0; law < 5; law++) {
                played("the empty one may come of " + n, x, law, law < 3 ? 1 : 0, law < 3 ? 0 : -1);
            }
        }
        // The last of 16 wins, and the last but one does not.
        played("15 of 16", States.boxes(4, 0, 1, 2, 3, 4, 5, 6, 7, 8, 9, 10, 11, 12, 13, 14), 0, 1, 15);
        played("14 of 16", States.boxes(4, 0, 1, 2, 3, 4, 5, 6, 7, 8, 9, 10, 11, 12, 13), 0, 0, -1);
        // The order in which THE LIST came is not asked.
        played("a, b, abcd", States.boxes(4, 15, 2, 1), 2, 1, 12);
    }

    private static void chanced(String of, NoneWithin x, int law, long above, long below) {
        Due.due(of + ": chance(" + law + ")", x.chance(law), 1);
        Due.due(of + ": part(0)", x.part(0), above);
        Due.due(of + ": part(1)", x.part(1), below);
    }

    private static void chanceAtTheEnds() {
        NoneWithin x = States.boxes(4, 0, 1, 2, 3, 4, 5, 6, 7);
        // Eight may come, and each comes in the end: by turns from sure to lose to sure to win.
        for (int set = 8; set < 16; set++) {
            chanced("16 less " + set, x, 0, set % 2, 1);
            x.box(set, 0);
        }
        chanced("none may come", x, 0, 0, 1);
        for (int n = 1; n <= 4; n++) {
            NoneWithin none = States.boxes(n);
            none.sizes(0, 0);
            chanced("the empty one alone", none, 1, 1, 1);
            chanced("none by SHARE", none, 3, 0, 1);
        }
        // Behind - a and b come both or ab alone; behind a two come, whichever is the first.
        chanced("behind - of 2", States.boxes(2, 0), 2, 1, 3);
        chanced("behind a of 2", States.boxes(2, 1), 2, 0, 1);
        chanced("behind -, ab of 2", States.boxes(2, 0, 3), 2, 0, 1);
        chanced("behind a, b, abcd", States.boxes(4, 1, 2, 15), 2, 1, 3);
    }

    /** What an earlier call on the object found, by another law or of more boxes, is not found again. */
    private static void rowsUsedAgain() {
        NoneWithin x = new NoneWithin();
        for (int round = 0; round < 2; round++) {
            for (int law = 4; law >= 0; law--) {
                NoneWithin y = new NoneWithin();
                Due.due("lists(" + law + ", 1) again", x.lists(law, 1), y.lists(law, 1));
                Due.due("game(" + law + ", 1) again", x.game(law, 1), y.game(law, 1));
                Due.due("more(" + law + ") again", x.more(law), y.more(law));
            }
        }
        NoneWithin z = States.boxes(3);
        chanced("all of 3", z, 0, 0, 1);
        z.box(7, 0);
        chanced("all but abc", z, 0, 1, 1);
        z.sorts(2);
        chanced("all of 2 by THREES", z, 2, 5, 6);
        chanced("all of 2 by NONE", z, 1, 1, 2);
        chanced("all of 2", z, 0, 0, 1);
        for (int sort = 0; sort < 8; sort++) {
            z.several(sort, 9);
        }
        Due.due("things(72)", z.things(72), 1);
        for (int sort = 0; sort < 8; sort++) {
            z.several(sort, 0);
        }
        Due.due("things(72) of none", z.things(72), 0);
        Due.due("things(0) of none", z.things(0), 1);
        Due.due("middle(0) of none", z.middle(0), 0);
    }

    private static BigInteger choose(int n, int k) {
        BigInteger found = BigInteger.ONE;
        for (int i = 1; i <= k; i++) {
            found = found.multiply(BigInteger.valueOf(n - i + 1)).divide(BigInteger.valueOf(i));
        }
        return found;
    }

    private static void greatestAll() {
        NoneWithin x = new NoneWithin();
        for (int n = 0; n <= 60; n++) {
            Due.due("greatest(" + n + ")", x.greatest(n), choose(n, n / 2).longValueExact());
        }
        Due.due("greatest(61)", x.greatest(61), -2);
        Due.due("greatest(-1)", x.greatest(-1), -2);
    }

    private static void sharedAll() {
        for (int k = 1; k <= 30; k++) {
            NoneWithin x = new NoneWithin();
            for (int n = 2 * k; n <= 60; n++) {
                Due.due("shared(" + n + ", " + k + ")", x.shared(n, k), choose(n - 1, k - 1).longValueExact());
            }
            Due.due("shared(" + (2 * k - 1) + ", " + k + ")", x.shared(2 * k - 1, k), -2);
            Due.due("shared(61, " + k + ")", x.shared(61, k), -2);
        }
    }

    private static void severalAtTheEnds() {
        for (int sort = 0; sort < 8; sort++) {
            NoneWithin x = new NoneWithin();
            int was = 0;
            for (int m = 9; m >= 0; m--) {
                Due.due("several(" + sort + ", " + m + ")", x.several(sort, m), was);
                Due.due("middle(1)", x.middle(1), m);
                was = m;
            }
            x.several(sort, 5);
            x.several(sort, 10);
            x.several(sort, -1);
            for (int other = 0; other < 8; other++) {
                Due.due("several(" + other + ") behind refused ones", x.several(other, 0), other == sort ? 5 : 0);
            }
        }
    }

    private static void thingsOfAll() {
        NoneWithin x = new NoneWithin();
        for (int sort = 0; sort < 8; sort++) {
            x.several(sort, 9);
        }
        // Each box is a number of eight figures, its things their sum: as many of s as of 72 less s.
        long sum = 0;
        for (int s = 0; s <= 72; s++) {
            sum += x.things(s);
            Due.due("things(" + s + ")", x.things(s), x.things(72 - s));
        }
        Due.due("all things", sum, 100000000);
        Due.due("things(0)", x.things(0), 1);
        Due.due("things(1)", x.things(1), 8);
        Due.due("things(71)", x.things(71), 8);
        Due.due("things(72)", x.things(72), 1);
        Due.due("things(36)", x.things(36), 4816030);
        Due.due("middle(0)", x.middle(0), 36);
        Due.due("middle(1)", x.middle(1), 72);
        // Of 71 in all 35 and 36 have the most: the least of them.
        x.several(7, 8);
        Due.due("middle(0) of 71", x.middle(0), 35);
        Due.due("things(35) of 71", x.things(35), x.things(36));
        Due.due("things(71) of 71", x.things(71), 1);
        Due.due("things(72) of 71", x.things(72), 0);
    }

    private static void middleOfOneSort() {
        for (int m = 0; m <= 9; m++) {
            NoneWithin x = new NoneWithin();
            x.several(7, m);
            for (int s = 0; s <= 72; s++) {
                Due.due("things(" + s + ") of " + m, x.things(s), s <= m ? 1 : 0);
            }
            Due.due("middle(0) of " + m, x.middle(0), 0);
            // With one of another sort the most are two of 1 .. m; of none one of 0.
            x.several(0, 1);
            Due.due("middle(0) of " + m + " and 1", x.middle(0), m == 0 ? 0 : 1);
            x.several(0, 9);
            Due.due("middle(0) of " + m + " and 9", x.middle(0), m);
        }
    }

    private static void fractionAtFirst() {
        NoneWithin x = new NoneWithin();
        Due.due("part(0)", x.part(0), 0);
        Due.due("part(1)", x.part(1), 1);
        x.sorts(3);
        x.box(3, 1);
        x.box(5, 1);
        x.judge(1, 0);
        x.game(1, 0);
        x.lists(1, 0);
        Due.due("part(0): no other call tells it", x.part(0), 0);
        x.fullness();
        Due.due("part(0) of fullness", x.part(0), 2);
        Due.due("part(1) of fullness", x.part(1), 3);
        // b or bc; behind either none: c is within both ac and bc, a within ab.
        chanced("behind ab, ac", x, 1, 1, 1);
        x.fullness();
        x.sorts(5);
        Due.no(x, "chance(1) of 5 sorts", y -> y.chance(1));
        Due.due("part(0) behind a refused chance", x.part(0), 2);
        Due.due("part(1) behind a refused chance", x.part(1), 3);
        x.fullness();
        Due.due("part(0) of none", x.part(0), 0);
        Due.due("part(1) of none", x.part(1), 1);
    }

    private static void imagesKeepAllBut() {
        NoneWithin x = Due.shop("sorts 6;sizes 1 5;box af 8;");
        x.several(2, 3);
        x.fullness();
        x.sorts(0);
        x.image(0);
        x.sorts(7);
        x.box(1, 1);
        x.box(2, 2);
        x.image(1);
        x.fullness();
        long above = x.part(0);
        long below = x.part(1);
        Due.write(x, "sorts 2;");
        x.count(9);
        Due.due("from(0)", x.from(0), 1);
        Due.due("from(0): THE TEXT stays", x.count(2), 8);
        Due.due("from(0): part(0) stays", x.part(0), above);
        Due.due("from(0): part(1) stays", x.part(1), below);
        Due.due("from(0): STATUS stays", x.status(0), 2);
        Due.due("from(0): n", x.count(0), 6);
        Due.due("from(0): LOW", x.count(3), 1);
        Due.due("from(0): HIGH", x.count(4), 5);
        Due.due("from(0): told(0, 0)", x.told(0, 0), 33);
        Due.due("from(0): told(0, 1)", x.told(0, 1), 8);
        Due.due("from(0): a second box", x.told(1, 0), -2);
        // An image does not keep the images: the other one is there as it was, and so is this one.
        Due.due("from(1)", x.from(1), 1);
        Due.due("from(1): boxes", x.count(1), 2);
        Due.due("from(1): n", x.count(0), 7);
        x.pop();
        x.several(2, 9);
        Due.due("from(1) again", x.from(1), 1);
        Due.due("from(1) again: boxes", x.count(1), 2);
        Due.due("from(1) again: several", x.several(2, 3), 3);
        Due.due("read() of THE TEXT that stayed", x.read(), 0);
        Due.due("count(0)", x.count(0), 2);
    }

    /** An empty LIST and one of 16 come back as they were, whatever was there between. */
    private static void imagesOfEachNumber() {
        NoneWithin x = States.boxes(5);
        x.image(0);
        for (int set = 0; set < 16; set++) {
            x.box(31 - set, set);
        }
        x.image(1);
        long full = x.digest();
        Due.due("from(0)", x.from(0), 1);
        Due.due("boxes of image 0", x.count(1), 0);
        Due.no(x, "pop() of image 0", y -> y.pop());
        x.box(1, 1);
        Due.due("from(1)", x.from(1), 1);
        Due.due("digest() of image 1", x.digest(), full);
        Due.full(x, "box(1, 1) of image 1", y -> y.box(1, 1));
        x.sorts(8);
        Due.due("image(1) anew", x.image(1), 1);
        x.from(0);
        x.from(1);
        Due.due("n of image 1 anew", x.count(0), 8);
        Due.due("boxes of image 1 anew", x.count(1), 0);
    }

    private static void digestOfAFullOne() {
        NoneWithin x = States.full();
        for (int sort = 0; sort < 8; sort++) {
            x.several(sort, 9 - sort);
        }
        long h = 659;
        long[] counts = {5, 16, 200, 0, 8};
        for (long v : counts) {
            h = 31 * h + v;
        }
        for (int i = 0; i < 16; i++) {
            h = 31 * (31 * h + 31 - i) + 99 - i;
        }
        for (int sort = 0; sort < 8; sort++) {
            h = 31 * h + 9 - sort;
        }
        // Of 16 to 31: one with one sort, four with two, six with three, four with four, one with all five.
        h = 31 * h + 3;
        h = 31 * h + 1;
        Due.due("part(0)", x.part(0), 3);
        Due.due("part(1)", x.part(1), 1);
        Due.due("digest()", x.digest(), h);
        Due.due("digest() counts nothing as refused", x.status(0) + x.status(1) + x.status(2), 0);
    }

    private static void lastOf512Calls() {
        NoneWithin x = new NoneWithin();
        for (int call = 1; call <= 511; call++) {
            Due.due("call " + call, x.count(-1), -2);
        }
        Due.due("call 512", x.status(0), 511);
    }
}
