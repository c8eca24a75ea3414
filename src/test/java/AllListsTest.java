/** Promises 17 to 20: more, lists, game, chance. */
public final class AllListsTest {
    public static void main(String[] args) {
        more();
        moreUntilNone();
        lists();
        listsBySizes();
        game();
        gameAgainstItself();
        chance();
        wrongInputs();
        Due.end("AllListsTest");
    }

    private static void more(NoneWithin x, int... want) {
        for (int law = 0; law < 5; law++) {
            Due.due("more(" + law + ")", x.more(law), want[law]);
        }
    }

    private static void more() {
        NoneWithin x = new NoneWithin();
        more(x, 0, 0, 0, 1, 1);
        x = Due.shop("sorts 4;box ab 1;");
        more(x, 0, 4, 0, 1, 5);
        x = Due.shop("sorts 4;box ab 1;box abc 1;");
        more(x, 0, -1, 4, 1, -1);
        x = Due.shop("sorts 4;box - 1;box ab 1;");
        more(x, 1, -1, 4, -1, -1);
        x = Due.shop("sorts 4;sizes 2 3;box ab 1;box abc 1;");
        more(x, 5, -1, 5, 5, -1);
        x.sizes(3, 3);
        more(x, -1, -1, -1, -1, -1);
        x = Due.shop("sorts 8;sizes 8 8;");
        more(x, 255, 255, 255, 255, 255);
        x.box(255, 0);
        more(x, -1, -1, -1, -1, -1);
        x = Due.shop("sorts 1;box a 1;box - 1;");
        more(x, -1, -1, -1, -1, -1);
        // A list of 16 can still have one more told.
        x = new NoneWithin();
        x.sorts(5);
        for (int set = 0; set < 16; set++) {
            x.box(set, 0);
        }
        Due.due("more(0) of 16", x.more(0), 16);
    }

    /** What more answers is lawful with the list, and in the end no box is left. */
    private static void moreUntilNone() {
        for (int law = 1; law < 5; law++) {
            NoneWithin x = new NoneWithin();
            x.sizes(2, 4);
            for (int i = 0; i < 16 && x.more(law) != -1; i++) {
                x.box(x.more(law), 0);
                Due.due("law " + law + ": judge behind more", x.judge(law, 0), -1);
            }
            Due.due("law " + law + ": more", x.more(law), -1);
            for (int set = 0; set < 16; set++) {
                if (x.box(set, 0) >= 0) {
                    Due.due("law " + law + ": breaks with " + set, x.judge(law, 0) == -1 ? 1 : 0, 0);
                    x.pop();
                }
            }
        }
    }

    private static void listed(NoneWithin x, int law, int... want) {
        for (int what = 0; what < 4; what++) {
            Due.due("lists(" + law + ", " + what + ")", x.lists(law, what), want[what]);
        }
    }

    private static void lists() {
        // The numbers of lists none within another are Dedekind's: 3, 6, 20, 168.
        int[] dedekind = {0, 3, 6, 20, 168};
        for (int n = 1; n <= 4; n++) {
            NoneWithin x = new NoneWithin();
            x.sorts(n);
            x.box(1, 0);
            Due.due("n " + n + ": lists(1, 0)", x.lists(1, 0), dedekind[n]);
            listed(x, 0, 1 << (1 << n), 1, 1 << n, 1 << n);
        }
        NoneWithin x = new NoneWithin();
        listed(x, 1, 168, 29, 1, 6);
        listed(x, 2, 3938, 136, 2, 10);
        listed(x, 3, 1376, 12, 8, 8);
        listed(x, 4, 81, 20, 1, 4);
    }

    private static void listsBySizes() {
        NoneWithin x = new NoneWithin();
        x.sorts(2);
        x.sizes(3, 8);
        for (int law = 0; law < 5; law++) {
            listed(x, law, 1, 1, 0, 0);
        }
        x.sorts(4);
        x.sizes(1, 2);
        listed(x, 0, 1024, 1, 10, 10);
        listed(x, 2, 1024, 1, 10, 10);
        x.sizes(0, 0);
        listed(x, 0, 2, 1, 1, 1);
        listed(x, 1, 2, 1, 1, 1);
        listed(x, 3, 1, 1, 0, 0);
        x.sizes(3, 3);
        listed(x, 3, 16, 1, 4, 4);
        listed(x, 4, 16, 1, 4, 4);
    }

    private static void played(NoneWithin x, int law, int wins, int by) {
        Due.due("game(" + law + ", 0)", x.game(law, 0), wins);
        Due.due("game(" + law + ", 1)", x.game(law, 1), by);
    }

    private static void game() {
        NoneWithin x = new NoneWithin();
        played(x, 0, 0, -1);
        played(x, 1, 1, 0);
        x.sorts(2);
        played(x, 2, 1, 1);
        played(x, 3, 0, -1);
        x.sorts(3);
        played(x, 2, 0, -1);
        x.sorts(4);
        x.sizes(1, 4);
        // Of 15 boxes the first one takes the last.
        played(x, 0, 1, 1);
        played(x, 1, 1, 15);
        x.box(1, 0);
        x.box(2, 0);
        played(x, 0, 1, 3);
        // c, d and cd are left: after c only d, after cd none.
        played(x, 1, 1, 12);
        x.box(4, 0);
        played(x, 1, 1, 8);
        x.box(8, 0);
        played(x, 1, 0, -1);
        Due.refused(x, "game(3, 0), not LAWFUL", NoneWithin.NO, -20, y -> y.game(3, 0));
        x.sorts(5);
        Due.refused(x, "game(1, 0) of 5 sorts", NoneWithin.NO, -20, y -> y.game(1, 0));
        Due.refused(x, "game(5, 0) of 5 sorts", NoneWithin.BAD, -10, y -> y.game(5, 0));
    }

    private static void gameAgainstItself() {
        for (int law = 0; law < 5; law++) {
            for (int first = 0; first < 16; first++) {
                againstItself(law, States.boxes(4, first));
                againstItself(law, States.boxes(4, first, 15 - first));
                againstItself(law, States.boxes(4, first, 15));
            }
        }
    }

    /** Who wins has a box behind which the other does not; who does not has none. */
    private static void againstItself(int law, NoneWithin x) {
        if (x.judge(law, 0) != -1) {
            return;
        }
        int least = -1;
        for (int set = 15; set >= 0; set--) {
            if (x.box(set, 0) >= 0) {
                least = x.game(law, 0) == 0 ? set : least;
                x.pop();
            }
        }
        played(x, law, least == -1 ? 0 : 1, least);
    }

    private static void chanced(NoneWithin x, int law, long above, long below) {
        Due.due("chance(" + law + ")", x.chance(law), 1);
        Due.due("chance(" + law + "), part(0)", x.part(0), above);
        Due.due("chance(" + law + "), part(1)", x.part(1), below);
    }

    private static void chance() {
        NoneWithin x = new NoneWithin();
        x.sorts(2);
        chanced(x, 0, 0, 1);
        // - or ab end it at once; a or b leave the other one.
        chanced(x, 1, 1, 2);
        x.box(1, 0);
        chanced(x, 0, 1, 1);
        chanced(x, 1, 1, 1);
        x.box(3, 0);
        Due.no(x, "chance(1), not LAWFUL", y -> y.chance(1));
        chanced(x, 3, 0, 1);
        x.sorts(3);
        // 8 may come under SIZED; under BOTH it is 7.
        chanced(x, 0, 0, 1);
        // Of 7: abc ends it; a, b, c end it, too; ab leaves ac and bc, both of which come.
        chanced(x, 4, 1, 1);
        x.sorts(4);
        Due.no(x, "chance(1), 16 may come", y -> y.chance(1));
        x.sizes(2, 3);
        Due.no(x, "chance(0), 10 may come", y -> y.chance(0));
        x.box(3, 0);
        Due.no(x, "chance(0), 9 may come", y -> y.chance(0));
        x.box(5, 0);
        chanced(x, 0, 0, 1);
        x.sorts(5);
        Due.no(x, "chance(0) of 5 sorts", y -> y.chance(0));
        Due.bad(x, "chance(5) of 5 sorts", y -> y.chance(5));
        x.sorts(4);
        x.sizes(0, 8);
        x.box(3, 0);
        // c, d, ac, bc, ad, bd, cd, acd, bcd: 9 of them.
        Due.no(x, "chance(1), 9 may come", y -> y.chance(1));
        x.box(5, 0);
        // d, bc, ad, bd, cd, bcd: whatever comes, the other one takes the last.
        chanced(x, 1, 0, 1);
        x.sorts(2);
        // Behind - or ab who is on turn wins 1 of 3 times, behind a or b never.
        chanced(x, 2, 5, 6);
        x.box(0, 0);
        chanced(x, 2, 1, 3);
    }

    private static void wrongInputs() {
        NoneWithin x = new NoneWithin();
        x.box(3, 1);
        x.fullness();
        Due.bad(x, "more(5)", y -> y.more(5));
        Due.bad(x, "more(-1)", y -> y.more(-1));
        Due.bad(x, "lists(5, 0)", y -> y.lists(5, 0));
        Due.bad(x, "lists(-1, 0)", y -> y.lists(-1, 0));
        Due.bad(x, "lists(0, 4)", y -> y.lists(0, 4));
        Due.bad(x, "lists(0, -1)", y -> y.lists(0, -1));
        Due.refused(x, "game(-1, 0)", NoneWithin.BAD, -10, y -> y.game(-1, 0));
        Due.refused(x, "game(0, 2)", NoneWithin.BAD, -10, y -> y.game(0, 2));
        Due.refused(x, "game(0, -1)", NoneWithin.BAD, -10, y -> y.game(0, -1));
        Due.bad(x, "chance(-1)", y -> y.chance(-1));
        x.sorts(5);
        Due.no(x, "lists(0, 0) of 5 sorts", y -> y.lists(0, 0));
        Due.bad(x, "lists(0, 4) of 5 sorts", y -> y.lists(0, 4));
    }
}
