/** Promises 10 to 16 at the edges that the document names: THE LIST of none, of one, of 16, and the least of like ones. */
public final class ListEdgesTest {
    private static final int[] FOURS = {15, 23, 27, 29, 30, 39, 43, 45, 46, 51, 53, 54, 57, 58, 60, 71};

    public static void main(String[] args) {
        emptyList();
        oneBox();
        sizesAtTheirEnds();
        withinOrNot();
        fewerAheadOfMore();
        threesInEachOrder();
        fullnessOfLayers();
        keptOfSixteen();
        keptLeastOfLikeOnes();
        keptByThrees();
        keptWorthOfNothing();
        rowsOfSixteen();
        opensAtTheEnds();
        aloneAtTheEnds();
        bracketsOfFewSorts();
        Due.end("ListEdgesTest");
    }

    private static NoneWithin worths(int n, int... setsAndWorths) {
        NoneWithin x = new NoneWithin();
        x.sorts(n);
        for (int i = 0; i < setsAndWorths.length; i += 2) {
            x.box(setsAndWorths[i], setsAndWorths[i + 1]);
        }
        return x;
    }

    private static void judged(String of, NoneWithin x, int law, int first, int many) {
        Due.due(of + ": judge(" + law + ", 0)", x.judge(law, 0), first);
        Due.due(of + ": judge(" + law + ", 1)", x.judge(law, 1), many);
    }

    private static void kept(NoneWithin x, int law, int wishes, int... want) {
        for (int what = 0; what < 4; what++) {
            Due.due("kept(" + law + ", " + wishes + ", " + what + ")", x.kept(law, wishes, what), want[what]);
        }
    }

    private static void emptyList() {
        for (int n = 1; n <= 8; n++) {
            NoneWithin x = States.boxes(n);
            x.sizes(8, 8);
            for (int law = 0; law < 5; law++) {
                judged("none of " + n, x, law, -1, -1);
                kept(x, law, 0, 0, 0, 0, 0);
                int told = law;
                Due.bad(x, "kept(" + law + ", 1, 0) of none", y -> y.kept(told, 1, 0));
            }
            Due.due("fullness()", x.fullness(), 1);
            Due.due("part(0)", x.part(0), 0);
            Due.due("part(1)", x.part(1), 1);
            Due.due("rows(0)", x.rows(0), 0);
            Due.due("rows(1)", x.rows(1), 0);
            Due.due("alone()", x.alone(), 0);
            Due.due("opens(0, 0)", x.opens(0, 0), 0);
            Due.due("opens(0, 1)", x.opens(0, 1), 0);
            for (int set = 1; set < 1 << n; set++) {
                Due.due("opens(" + set + ", 0)", x.opens(set, 0), -1);
            }
        }
    }

    private static void oneBox() {
        for (int set = 0; set < 256; set++) {
            NoneWithin x = worths(8, set, 9);
            for (int law = 0; law < 5; law++) {
                // SHARE and BOTH have none that is empty; each two with a sort in common asks nothing of one.
                boolean breaks = set == 0 && law >= 3;
                judged("one, " + set, x, law, breaks ? 0 : -1, breaks ? 1 : -1);
                kept(x, law, 0, breaks ? new int[] {0, 0, 0, 0} : new int[] {1, 1, 9, 1});
                kept(x, law, 1, breaks ? new int[] {-1, -1, -1, -1} : new int[] {1, 1, 9, 1});
            }
            Due.due("rows(0) of one", x.rows(0), 1);
            Due.due("rows(1) of one", x.rows(1), 1);
            Due.due("alone() of one, " + set, x.alone(), set == 0 ? 0 : 1);
            Due.due("opens(" + set + ", 0) of it", x.opens(set, 0), set == 0 ? 0 : 1);
            Due.due("opens(" + set + ", 1) of it", x.opens(set, 1), set == 0 ? 0 : 1);
            Due.due("opens(255, 0) of one, " + set, x.opens(255, 0), set == 255 ? 1 : -1);
        }
    }

    private static void sizesAtTheirEnds() {
        for (int size = 0; size <= 8; size++) {
            NoneWithin x = States.boxes(8, (1 << size) - 1);
            for (int low = 0; low <= 8; low++) {
                for (int high = low; high <= 8; high++) {
                    x.sizes(low, high);
                    boolean fits = low <= size && size <= high;
                    Due.due("judge(0, 0) of " + size + " in " + low + ".." + high, x.judge(0, 0), fits ? -1 : 0);
                    Due.due("kept(0, 0, 0) of " + size + " in " + low + ".." + high, x.kept(0, 0, 0), fits ? 1 : 0);
                    Due.due("kept(0, 1, 1) of " + size + " in " + low + ".." + high, x.kept(0, 1, 1), fits ? 1 : -1);
                }
            }
        }
    }

    private static void withinOrNot() {
        for (int a = 0; a < 16; a++) {
            for (int b = 0; b < 16; b++) {
                if (a == b) {
                    continue;
                }
                NoneWithin x = States.boxes(4, a, b);
                String of = a + " and " + b;
                boolean nested = (a & b) == a || (a & b) == b;
                boolean apart = (a & b) == 0;
                int empty = a == 0 ? 0 : b == 0 ? 1 : -1;
                judged(of, x, 0, -1, -1);
                judged(of, x, 1, nested ? 1 : -1, nested ? 2 : -1);
                judged(of, x, 2, -1, -1);
                judged(of, x, 3, empty >= 0 ? empty : apart ? 1 : -1, empty >= 0 ? 1 : apart ? 2 : -1);
                boolean both = nested || apart;
                judged(of, x, 4, empty >= 0 ? empty : both ? 1 : -1, empty >= 0 ? 1 : both ? 2 : -1);
                Due.due(of + ": rows(0)", x.rows(0), nested ? 1 : 2);
                Due.due(of + ": rows(1)", x.rows(1), nested ? 2 : 1);
            }
        }
    }

    private static void fewerAheadOfMore() {
        // 0 a, 1 ab, 2 abc, 3 abcd: two and three break from the first on, but the last is too great alone.
        NoneWithin x = States.boxes(4, 1, 3, 7, 15);
        x.sizes(1, 3);
        for (int law = 0; law < 5; law++) {
            judged("the last alone", x, law, 3, 1);
        }
        x.sizes(1, 4);
        judged("a row of four", x, 1, 1, 2);
        judged("a row of four", x, 2, 102, 3);
        // The first of those alone, not the least of them: 1 and 2 do not fit.
        x = States.boxes(4, 3, 15, 0);
        x.sizes(1, 3);
        judged("two that do not fit", x, 0, 1, 1);
        judged("two that do not fit", x, 3, 1, 1);
        // Of two by the first, then by the second: 0 has 2 and 3, 1 has 2.
        x = States.boxes(4, 3, 5, 7, 1);
        judged("by the first", x, 1, 2, 2);
        x = States.boxes(4, 8, 3, 5, 7, 1);
        judged("by the second", x, 1, 103, 2);
        // By SHARE the two that are apart, by BOTH the first two of either kind.
        x = States.boxes(4, 3, 7, 12);
        judged("apart", x, 3, 2, 2);
        judged("within, then apart", x, 4, 1, 2);
        x = States.boxes(4, 3, 12, 7);
        judged("apart, then within", x, 4, 1, 2);
        // cdef is within cdefg alone.
        x = States.boxes(7, FOURS);
        judged("16 of four sorts", x, 1, -1, -1);
        x.pop();
        x.box(124, 1);
        judged("the last two of 16", x, 1, 1415, 2);
    }

    private static void threesInEachOrder() {
        int[][] orders = {{0, 1, 2}, {0, 2, 1}, {1, 0, 2}, {1, 2, 0}, {2, 0, 1}, {2, 1, 0}};
        int[] row = {1, 7, 15};
        for (int[] o : orders) {
            judged("three", States.boxes(4, row[o[0]], row[o[1]], row[o[2]]), 2, 102, 3);
            judged("three behind one", States.boxes(4, 8 + 2, row[o[0]], row[o[1]], row[o[2]]), 2, 10203, 3);
        }
        // Two within a third, or one within two, are not one within the next.
        judged("two within a third", States.boxes(4, 1, 2, 3), 2, -1, -1);
        judged("one within two", States.boxes(4, 1, 3, 5), 2, -1, -1);
        judged("the empty one is within all", States.boxes(4, 3, 0, 1), 2, 102, 3);
        // By the first, the second, the third: 0 1 4 and 0 2 3 and 1 2 3 are such, or not.
        judged("by the second", States.boxes(4, 1, 3, 5, 7, 15), 2, 103, 3);
        judged("by the third", States.boxes(4, 1, 3, 4, 11, 7), 2, 103, 3);
        judged("the last three of 16", lastThree(), 2, 131415, 3);
    }

    private static NoneWithin lastThree() {
        NoneWithin x = States.boxes(8);
        for (int i = 0; i < 13; i++) {
            x.box(FOURS[i], 1);
        }
        x.box(192, 1);
        x.box(128, 1);
        x.box(224, 1);
        return x;
    }

    /** All boxes of one size are 1 together; an empty one, and that of all sorts, are 1 alone. */
    private static void fullnessOfLayers() {
        for (int n = 1; n <= 8; n++) {
            NoneWithin x = States.boxes(n);
            for (int sort = 0; sort < n; sort++) {
                x.box(1 << sort, 0);
                fraction(x, sort + 1, n);
            }
            x.box(0, 0);
            fraction(x, 2, 1);
            if (n > 1) {
                x.box((1 << n) - 1, 0);
                fraction(x, 3, 1);
                fraction(x, 3, 1);
            }
            x.sorts(n);
            fraction(x, 0, 1);
        }
        NoneWithin all = States.boxes(4, 0, 1, 2, 3, 4, 5, 6, 7, 8, 9, 10, 11, 12, 13, 14, 15);
        all.sizes(0, 0);
        fraction(all, 5, 1);
        fraction(States.boxes(7, FOURS), 16, 35);
        fraction(States.boxes(8, FOURS), 16, 70);
        fraction(States.boxes(8, 1, 3, 7, 15, 31, 63, 127), 35 + 10 + 5 + 4 + 5 + 10 + 35, 280);
    }

    private static void fraction(NoneWithin x, long above, long below) {
        long a = above;
        long b = below;
        while (b != 0) {
            long rest = a % b;
            a = b;
            b = rest;
        }
        Due.due("fullness()", x.fullness(), 1);
        Due.due("part(0)", x.part(0), above / a);
        Due.due("part(1)", x.part(1), below / a);
    }

    private static void keptOfSixteen() {
        NoneWithin x = States.boxes(7, FOURS);
        kept(x, 0, 65535, 16, 65535, 16, 65535);
        kept(x, 1, 65535, 16, 65535, 16, 65535);
        kept(x, 2, 65535, 16, 65535, 16, 65535);
        kept(x, 1, 32768, 16, 65535, 16, 65535);
        Due.bad(x, "kept(0, 65536, 0)", y -> y.kept(0, 65536, 0));
        x.sizes(5, 8);
        kept(x, 0, 0, 0, 0, 0, 0);
        kept(x, 0, 32768, -1, -1, -1, -1);
        kept(x, 0, 65535, -1, -1, -1, -1);
        // One row of nine and seven beside it: by NONE one of the nine at most.
        x = States.boxes(8, 0, 1, 3, 7, 15, 31, 63, 127, 255);
        for (int law = 1; law < 5; law++) {
            int most = law == 1 || law == 4 ? 1 : law == 2 ? 2 : 8;
            Due.due("kept(" + law + ", 0, 0) of a row", x.kept(law, 0, 0), most);
        }
        Due.due("kept(1, 256, 1) of a row", x.kept(1, 256, 1), 256);
        Due.due("kept(2, 256, 1) of a row", x.kept(2, 256, 1), 257);
        Due.due("kept(3, 0, 1) of a row", x.kept(3, 0, 1), 510);
        Due.due("kept(3, 1, 1) of a row", x.kept(3, 1, 1), -1);
        Due.bad(x, "kept(0, 512, 0) of nine", y -> y.kept(0, 512, 0));
        // The most WORTH there is: 16 times 99.
        x = new NoneWithin();
        x.sorts(7);
        for (int set : FOURS) {
            x.box(set, 99);
        }
        kept(x, 1, 0, 16, 65535, 1584, 65535);
    }

    private static void keptLeastOfLikeOnes() {
        // 0 a and 3 b are within both of 1 abc and 2 abd: 9 or 6 as bits.
        NoneWithin x = worths(4, 1, 5, 7, 5, 11, 5, 2, 5);
        kept(x, 1, 0, 2, 6, 10, 6);
        kept(x, 1, 1, 2, 9, 10, 9);
        // The same the other way about: 1, 2 against 0, 3.
        x = worths(4, 7, 5, 1, 5, 2, 5, 11, 5);
        kept(x, 1, 0, 2, 6, 10, 6);
        // One that is worth as much as two is the least only where its bit is less.
        x = worths(3, 1, 3, 2, 4, 3, 7);
        kept(x, 1, 0, 2, 3, 7, 3);
        x = worths(3, 3, 7, 1, 3, 2, 4);
        kept(x, 1, 0, 2, 6, 7, 1);
        // Each two of four are apart, so one alone is kept: the first.
        x = worths(4, 8, 2, 4, 2, 2, 2, 1, 2);
        kept(x, 3, 0, 1, 1, 2, 1);
        kept(x, 4, 8, 1, 8, 2, 8);
        // The most BOXES and the most WORTH are not the same ones.
        x = worths(4, 15, 90, 1, 1, 2, 1, 4, 1);
        kept(x, 1, 0, 3, 14, 90, 1);
    }

    private static void keptByThrees() {
        // 0 a, 1 bd, 2 abc, 3 ac: the first and the third, with another between, bar what is between them.
        NoneWithin x = worths(4, 1, 1, 10, 1, 7, 1, 5, 9);
        kept(x, 2, 7, 3, 7, 3, 7);
        kept(x, 2, 0, 3, 7, 11, 11);
        kept(x, 2, 13, -1, -1, -1, -1);
        kept(x, 2, 12, 3, 14, 11, 14);
        // Behind a, b and abcd c, d or cd may come; behind cd none.
        x = States.boxes(4, 1, 2, 15);
        Due.due("more(2) behind a, b, abcd", x.more(2), 4);
        Due.due("game(2, 0) behind a, b, abcd", x.game(2, 0), 1);
        Due.due("game(2, 1) behind a, b, abcd", x.game(2, 1), 12);
        Due.due("chance(2) behind a, b, abcd", x.chance(2), 1);
        Due.due("part(0)", x.part(0), 1);
        Due.due("part(1)", x.part(1), 3);
    }

    private static void keptWorthOfNothing() {
        NoneWithin x = worths(4, 1, 0, 2, 0, 4, 5, 8, 0);
        kept(x, 1, 0, 4, 15, 5, 4);
        kept(x, 1, 8, 4, 15, 5, 12);
        kept(x, 1, 11, 4, 15, 5, 15);
        x = worths(4, 1, 0, 3, 0);
        kept(x, 1, 0, 1, 1, 0, 0);
        kept(x, 1, 2, 1, 2, 0, 2);
        kept(x, 1, 3, -1, -1, -1, -1);
    }

    private static void rowsOfSixteen() {
        NoneWithin x = States.boxes(7, FOURS);
        Due.due("rows(0) of 16 none within another", x.rows(0), 16);
        Due.due("rows(1) of 16 none within another", x.rows(1), 1);
        // A longer row was counted on this object before, in both orders of its boxes.
        x = States.boxes(8, 255, 127, 63, 31, 15, 7, 3, 1, 0);
        Due.due("rows(0) of a row", x.rows(0), 1);
        Due.due("rows(1) of a row", x.rows(1), 9);
        x.sorts(8);
        x.box(12, 1);
        x.box(3, 1);
        Due.due("rows(0) of two behind it", x.rows(0), 2);
        Due.due("rows(1) of two behind it", x.rows(1), 1);
        x = States.boxes(8, 0, 1, 3, 7, 15, 31, 63, 127, 255);
        Due.due("rows(1) of a row", x.rows(1), 9);
        x.sorts(8);
        x.box(1, 1);
        x.box(0, 1);
        x.box(2, 1);
        Due.due("rows(0) of three behind it", x.rows(0), 2);
        Due.due("rows(1) of three behind it", x.rows(1), 2);
        // A row need not have a box of each size.
        Due.due("rows(0) with gaps", States.boxes(8, 255, 0, 15).rows(0), 1);
        Due.due("rows(1) with gaps", States.boxes(8, 255, 0, 15).rows(1), 3);
    }

    private static void opened(NoneWithin x, int set, int many, int which) {
        Due.due("opens(" + set + ", 0)", x.opens(set, 0), many);
        Due.due("opens(" + set + ", 1)", x.opens(set, 1), which);
    }

    private static void opensAtTheEnds() {
        NoneWithin x = States.boxes(8, 0, 1, 2, 4, 8, 16, 32, 64, 128);
        opened(x, 0, 0, 0);
        opened(x, 255, 8, 510);
        opened(x, 128, 1, 256);
        x.box(15, 1);
        x.box(240, 1);
        opened(x, 255, 2, 1536);
        opened(x, 17, 2, 34);
        x.box(255, 1);
        opened(x, 255, 1, 2048);
        opened(x, 1, 1, 2);
        opened(x, 17, 1, 2048);
        // Fewer ones are ahead of lesser bits; of as many the least: 0 3 or 1 2.
        opened(States.boxes(4, 3, 5, 10, 12), 15, 2, 6);
        opened(States.boxes(4, 1, 2, 3), 3, 1, 4);
        opened(States.boxes(4, 1, 2, 4), 8, -1, -1);
        opened(States.boxes(4, 1, 2, 4), 15, -1, -1);
        // The last of 16.
        x = States.boxes(7, FOURS);
        opened(x, 64, 1, 32768);
        x.sorts(1);
        opened(x, 0, 0, 0);
        opened(x, 1, -1, -1);
        x.box(1, 1);
        opened(x, 1, 1, 1);
    }

    private static void aloneAtTheEnds() {
        Due.due("alone() of 16", States.boxes(7, FOURS).alone(), 32768);
        Due.due("alone() of all of 4", States.boxes(4, 0, 1, 2, 3, 4, 5, 6, 7, 8, 9, 10, 11, 12, 13, 14, 15).alone(), 0);
        Due.due("alone() of ones apart", States.boxes(8, 1, 2, 4, 8, 16, 32, 64, 128).alone(), 255);
        Due.due("alone() of three with one sort", States.boxes(4, 1, 3, 5).alone(), 6);
        Due.due("alone() of one sort thrice", States.boxes(4, 9, 1, 3).alone(), 5);
        Due.due("alone() with the empty one", States.boxes(4, 0, 15).alone(), 2);
    }

    private static void row(NoneWithin x, int set, int... want) {
        for (int what = 0; what < 4; what++) {
            Due.due("row(" + set + ", " + what + ")", x.row(set, what), want[what]);
        }
    }

    private static void bracketsOfFewSorts() {
        NoneWithin x = States.boxes(1);
        row(x, 0, 1, 0, 0, 2);
        row(x, 1, -1, 0, 0, 2);
        x.sorts(2);
        row(x, 0, 1, 0, 1, 3);
        row(x, 1, 3, 0, 1, 3);
        // ( ) is matched: a row of its own.
        row(x, 2, -1, 2, 2, 1);
        row(x, 3, -1, 0, 1, 3);
        x.sorts(3);
        // ) ( ) and ( ) ( and ( ( ) and ( ) ): two rows of two.
        row(x, 5, -1, 4, 4, 2);
        row(x, 2, 6, 2, 2, 2);
        row(x, 4, 5, 4, 4, 2);
        row(x, 6, -1, 2, 2, 2);
        x.sorts(8);
        row(x, 0, 1, 0, 15, 9);
        row(x, 255, -1, 0, 15, 9);
        row(x, 254, -1, 2, 2 | 1 << 2 | 1 << 3 | 1 << 4, 7);
        row(x, 128, 129, 128, 128 | 7, 7);
        row(x, 240, -1, 240, 240, 1);
        // THE LIST and SIZES are not asked.
        x.box(0, 0);
        x.sizes(5, 5);
        row(x, 0, 1, 0, 15, 9);
    }
}
