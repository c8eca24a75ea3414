/** Promises 10 to 15: judge, fullness, kept, rows, opens, alone. */
public final class ListTest {
    public static void main(String[] args) {
        judgeAlone();
        judgeTwoAndThree();
        fullness();
        keptOrdinary();
        keptByWishes();
        keptTies();
        rows();
        opens();
        alone();
        wrongInputs();
        Due.end("ListTest");
    }

    private static void judged(NoneWithin x, int law, int first, int many) {
        Due.due("judge(" + law + ", 0)", x.judge(law, 0), first);
        Due.due("judge(" + law + ", 1)", x.judge(law, 1), many);
    }

    private static void judgeAlone() {
        NoneWithin x = new NoneWithin();
        for (int law = 0; law <= 4; law++) {
            judged(x, law, -1, -1);
        }
        x = Due.shop("sorts 4;sizes 2 3;box ab 1;box a 1;box abcd 1;box cd 1;");
        for (int law = 0; law <= 4; law++) {
            judged(x, law, 1, 1);
        }
        x.sizes(1, 3);
        judged(x, 0, 2, 1);
        x.sizes(1, 4);
        judged(x, 0, -1, -1);
        x = Due.shop("sorts 4;box a 1;box - 1;");
        judged(x, 0, -1, -1);
        judged(x, 1, 1, 2);
        judged(x, 2, -1, -1);
        judged(x, 3, 1, 1);
        judged(x, 4, 1, 1);
    }

    private static void judgeTwoAndThree() {
        // 0 ab, 1 cd, 2 abc, 3 ac, 4 a
        NoneWithin x = Due.shop("sorts 4;box ab 1;box cd 1;box abc 1;box ac 1;box a 1;");
        judged(x, 1, 2, 2);
        judged(x, 2, 204, 3);
        judged(x, 3, 1, 2);
        judged(x, 4, 1, 2);
        x = Due.shop("sorts 4;box cd 1;box ac 1;box abd 1;box b 1;box bd 1;");
        judged(x, 1, 203, 2);
        judged(x, 2, 20304, 3);
        judged(x, 3, 3, 2);
        judged(x, 4, 3, 2);
        x = Due.shop("sorts 5;box ab 1;box ac 1;box ad 1;box abe 1;");
        judged(x, 4, 3, 2);
        judged(x, 3, -1, -1);
        judged(x, 2, -1, -1);
        // The greatest numbers: 13, 14, 15 are the only three.
        x = new NoneWithin();
        x.sorts(8);
        int[] four = {15, 23, 27, 29, 30, 39, 43, 45, 46, 51, 53, 54, 57};
        for (int set : four) {
            x.box(set, 0);
        }
        x.box(128, 0);
        x.box(192, 0);
        x.box(224, 0);
        judged(x, 1, 1314, 2);
        judged(x, 2, 131415, 3);
        judged(x, 3, 13, 2);
    }

    private static void fraction(NoneWithin x, long above, long below) {
        Due.due("fullness()", x.fullness(), 1);
        Due.due("part(0)", x.part(0), above);
        Due.due("part(1)", x.part(1), below);
    }

    private static void fullness() {
        NoneWithin x = new NoneWithin();
        fraction(x, 0, 1);
        x = Due.shop("sorts 3;box a 1;box b 1;box c 1;");
        fraction(x, 1, 1);
        x.box(0, 1);
        fraction(x, 2, 1);
        x.pop();
        x.pop();
        fraction(x, 2, 3);
        x = Due.shop("sorts 8;box a 1;box ab 1;box abc 1;box abcd 1;box -1;");
        // 1/8 + 1/28 + 1/56 + 1/70 + 1
        fraction(x, 167, 140);
        x.sizes(8, 8);
        fraction(x, 167, 140);
        x.sorts(1);
        fraction(x, 0, 1);
    }

    private static void kept(NoneWithin x, int law, int wishes, int... want) {
        for (int what = 0; what < 4; what++) {
            Due.due("kept(" + law + ", " + wishes + ", " + what + ")", x.kept(law, wishes, what), want[what]);
        }
    }

    private static void keptOrdinary() {
        NoneWithin none = new NoneWithin();
        for (int law = 0; law <= 4; law++) {
            kept(none, law, 0, 0, 0, 0, 0);
        }
        // 0 a, 1 b, 2 ab, 3 abc, 4 -, 5 cd
        NoneWithin x = Due.shop("sorts 4;box a 5;box b 6;box ab 20;box abc 9;box - 50;box cd 3;");
        kept(x, 0, 0, 6, 63, 93, 63);
        kept(x, 1, 0, 3, 35, 50, 16);
        kept(x, 2, 0, 4, 39, 73, 52);
        kept(x, 3, 0, 3, 13, 35, 14);
        kept(x, 4, 0, 2, 40, 20, 4);
        x.sizes(1, 2);
        kept(x, 0, 0, 4, 39, 34, 39);
        kept(x, 1, 0, 3, 35, 23, 36);
    }

    private static void keptByWishes() {
        NoneWithin x = Due.shop("sorts 4;box a 5;box b 6;box ab 20;box abc 9;box - 50;box cd 3;");
        kept(x, 1, 1, 3, 35, 14, 35);
        kept(x, 1, 8, 2, 40, 12, 40);
        kept(x, 1, 5, -1, -1, -1, -1);
        kept(x, 3, 16, -1, -1, -1, -1);
        kept(x, 2, 13, -1, -1, -1, -1);
        kept(x, 2, 12, 3, 44, 32, 44);
        kept(x, 0, 63, 6, 63, 93, 63);
        x.sizes(1, 4);
        kept(x, 0, 16, -1, -1, -1, -1);
    }

    private static void keptTies() {
        NoneWithin x = Due.shop("sorts 3;box ab 0;box a 0;box c 0;box abc 0;");
        kept(x, 1, 0, 2, 5, 0, 0);
        kept(x, 1, 2, 2, 6, 0, 2);
        kept(x, 0, 0, 4, 15, 0, 0);
        x = new NoneWithin();
        for (int set = 0; set < 16; set++) {
            x.box(set, set);
        }
        kept(x, 0, 0, 16, 65535, 120, 65534);
        // The pairs are worth 45, and so are the threes, which are more as bits.
        kept(x, 1, 0, 6, 5736, 45, 5736);
        kept(x, 2, 32768, 7, 38504, 60, 38504);
        x = Due.shop("sorts 3;box abc 9;box a 4;box b 5;box c 0;");
        kept(x, 1, 0, 3, 14, 9, 1);
        x = Due.shop("sorts 3;box a 4;box b 5;box c 0;box abc 9;");
        kept(x, 1, 0, 3, 7, 9, 3);
    }

    private static void rows() {
        NoneWithin x = new NoneWithin();
        Due.due("rows(0) of none", x.rows(0), 0);
        Due.due("rows(1) of none", x.rows(1), 0);
        for (int set = 15; set >= 0; set--) {
            x.box(set, 1);
        }
        x.sizes(3, 3);
        Due.due("rows(0) of all", x.rows(0), 6);
        Due.due("rows(1) of all", x.rows(1), 5);
        x = Due.shop("sorts 4;box - 1;");
        Due.due("rows(0) of the empty one", x.rows(0), 1);
        Due.due("rows(1) of the empty one", x.rows(1), 1);
        x = Due.shop("sorts 8;box a 1;box abcdefgh 1;");
        Due.due("rows(0) of two", x.rows(0), 1);
        Due.due("rows(1) of two", x.rows(1), 2);
        // A greedy row a, abc would leave three more rows.
        x = Due.shop("sorts 4;box a 1;box b 1;box ab 1;box abc 1;box abd 1;");
        Due.due("rows(0)", x.rows(0), 2);
        Due.due("rows(1)", x.rows(1), 3);
        x = Due.shop("sorts 4;box ab 1;box cd 1;box ad 1;");
        Due.due("rows(0) none within another", x.rows(0), 3);
        Due.due("rows(1) none within another", x.rows(1), 1);
    }

    private static void opened(NoneWithin x, int set, int many, int which) {
        Due.due("opens(" + set + ", 0)", x.opens(set, 0), many);
        Due.due("opens(" + set + ", 1)", x.opens(set, 1), which);
    }

    private static void opens() {
        NoneWithin x = new NoneWithin();
        opened(x, 0, 0, 0);
        opened(x, 1, -1, -1);
        x = Due.shop("sorts 5;box ab 1;box cd 1;box bc 1;box ad 1;box - 1;");
        opened(x, 0, 0, 0);
        opened(x, 15, 2, 3);
        opened(x, 1, 1, 1);
        opened(x, 8, 1, 2);
        opened(x, 9, 1, 8);
        opened(x, 7, 2, 3);
        opened(x, 16, -1, -1);
        opened(x, 31, -1, -1);
        // The greedy first choice abcd would want three.
        x = Due.shop("sorts 6;box abcd 1;box ace 1;box bdf 1;box e 1;box f 1;");
        opened(x, 63, 2, 6);
        x.sorts(8);
        for (int sort = 7; sort >= 0; sort--) {
            x.box(1 << sort, 1);
        }
        opened(x, 255, 8, 255);
    }

    private static void alone() {
        NoneWithin x = new NoneWithin();
        Due.due("alone() of none", x.alone(), 0);
        x = Due.shop("sorts 5;box ab 1;box bc 1;box cd 1;box - 1;box ac 1;");
        Due.due("alone()", x.alone(), 4);
        x.pop();
        Due.due("alone()", x.alone(), 5);
        x = Due.shop("sorts 2;box ab 1;");
        Due.due("alone() of one", x.alone(), 1);
        x = Due.shop("sorts 3;box ab 1;box ac 1;box a 1;");
        Due.due("alone() of three", x.alone(), 3);
    }

    private static void wrongInputs() {
        NoneWithin x = Due.shop("sorts 3;box ab 1;box c 2;");
        x.fullness();
        Due.bad(x, "judge(5, 0)", y -> y.judge(5, 0));
        Due.bad(x, "judge(-1, 0)", y -> y.judge(-1, 0));
        Due.bad(x, "judge(0, 2)", y -> y.judge(0, 2));
        Due.bad(x, "judge(0, -1)", y -> y.judge(0, -1));
        Due.bad(x, "kept(5, 0, 0)", y -> y.kept(5, 0, 0));
        Due.bad(x, "kept(-1, 0, 0)", y -> y.kept(-1, 0, 0));
        Due.bad(x, "kept(0, 4, 0)", y -> y.kept(0, 4, 0));
        Due.bad(x, "kept(0, -1, 0)", y -> y.kept(0, -1, 0));
        Due.bad(x, "kept(0, 0, 4)", y -> y.kept(0, 0, 4));
        Due.bad(x, "kept(0, 0, -1)", y -> y.kept(0, 0, -1));
        Due.bad(x, "rows(2)", y -> y.rows(2));
        Due.bad(x, "rows(-1)", y -> y.rows(-1));
        Due.bad(x, "opens(8, 0)", y -> y.opens(8, 0));
        Due.bad(x, "opens(-1, 0)", y -> y.opens(-1, 0));
        Due.bad(x, "opens(0, 2)", y -> y.opens(0, 2));
        Due.bad(x, "opens(0, -1)", y -> y.opens(0, -1));
    }
}
