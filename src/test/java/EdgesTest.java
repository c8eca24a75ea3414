/**
 * Each number that a call takes: the last that is as told and the first that is not, at both ends, in states far from
 * one another. What is not as told is BAD ahead of NO and FULL, and changes nothing but STATUS.
 */
public final class EdgesTest {
    private static int state = 0;

    public static void main(String[] args) {
        for (state = 0; state < States.MANY; state++) {
            shops();
            theList();
            brackets();
            allLists();
            numbers();
            whatThereIs();
        }
        Due.end("EdgesTest");
    }

    interface One {
        long answer(NoneWithin x, int a);
    }

    private static int count(int what) {
        return States.make(state).count(what);
    }

    private static String named(String call, int a) {
        return States.NAMES[state] + ": " + call.replace("*", String.valueOf(a));
    }

    /** The ends of a number's range and what lies beyond them, with the rest of the call as told. */
    private static void range(String call, int low, int high, One c) {
        range(call, low, high, NoneWithin.BAD, c);
    }

    private static void range(String call, int low, int high, int bad, One c) {
        asTold(call, low, c);
        asTold(call, high, c);
        beyond(call, low, high, bad, c);
    }

    private static void asTold(String call, int a, One c) {
        NoneWithin x = States.make(state);
        int before = x.status(0);
        c.answer(x, a);
        Due.due(named(call, a) + ", then status(0)", x.status(0), before);
    }

    private static void beyond(String call, int low, int high, int bad, One c) {
        int[] below = {low - 1, low - 2, low - 256, low - 65536, -high - 1, Integer.MIN_VALUE, Integer.MIN_VALUE + low};
        for (int a : below) {
            if (a < low) {
                refused(call, a, bad, c);
            }
        }
        int[] above = {high + 1, high + 2, high + 256, high + 65536, 1 << 30, Integer.MAX_VALUE};
        for (int a : above) {
            refused(call, a, bad, c);
        }
    }

    private static void refused(String call, int a, int bad, One c) {
        NoneWithin x = States.make(state);
        Due.unchanged(x, States.make(state), named(call, a), NoneWithin.BAD, bad, y -> c.answer(y, a));
    }

    private static void shops() {
        range("sorts(*)", 1, 8, (x, a) -> x.sorts(a));
        range("sizes(*, 8)", 0, 8, (x, a) -> x.sizes(a, 8));
        range("sizes(*, 4)", 0, 4, (x, a) -> x.sizes(a, 4));
        range("sizes(*, 0)", 0, 0, (x, a) -> x.sizes(a, 0));
        range("sizes(0, *)", 0, 8, (x, a) -> x.sizes(0, a));
        range("sizes(4, *)", 4, 8, (x, a) -> x.sizes(4, a));
        range("sizes(8, *)", 8, 8, (x, a) -> x.sizes(8, a));
        int most = (1 << count(0)) - 1;
        // Whether a box is there already is not asked by these.
        beyond("box(*, 0)", 0, most, NoneWithin.BAD, (x, a) -> x.box(a, 0));
        beyond("box(0, *)", 0, 99, NoneWithin.BAD, (x, a) -> x.box(0, a));
        beyond("box(" + most + ", *)", 0, 99, NoneWithin.BAD, (x, a) -> x.box(most, a));
        if (count(1) == 0) {
            range("box(*, 99)", 0, most, (x, a) -> x.box(a, 99));
            range("box(1, *)", 0, 99, (x, a) -> x.box(1, a));
            beyond("told(*, 0) of none", 0, -1, NoneWithin.BAD, (x, a) -> x.told(a, 0));
            beyond("told(*, 1) of none", 0, -1, NoneWithin.BAD, (x, a) -> x.told(a, 1));
        } else {
            range("told(*, 0)", 0, count(1) - 1, (x, a) -> x.told(a, 0));
            range("told(*, 1)", 0, count(1) - 1, (x, a) -> x.told(a, 1));
            range("told(0, *)", 0, 1, (x, a) -> x.told(0, a));
        }
        range("type(-1, *)", 1, 8, (x, a) -> x.type(-1L, a));
    }

    private static void theList() {
        int most = (1 << count(0)) - 1;
        int all = (1 << count(1)) - 1;
        range("judge(*, 0)", 0, 4, (x, a) -> x.judge(a, 0));
        range("judge(*, 1)", 0, 4, (x, a) -> x.judge(a, 1));
        for (int i = 0; i <= 4; i++) {
            int law = i;
            range("judge(" + law + ", *)", 0, 1, (x, a) -> x.judge(law, a));
            range("kept(" + law + ", 0, *)", 0, 3, (x, a) -> x.kept(law, 0, a));
            range("kept(" + law + ", *, 0)", 0, all, (x, a) -> x.kept(law, a, 0));
            range("kept(" + law + ", *, 3)", 0, all, (x, a) -> x.kept(law, a, 3));
        }
        range("kept(*, 0, 0)", 0, 4, (x, a) -> x.kept(a, 0, 0));
        range("kept(*, " + all + ", 3)", 0, 4, (x, a) -> x.kept(a, all, 3));
        range("rows(*)", 0, 1, (x, a) -> x.rows(a));
        range("opens(*, 0)", 0, most, (x, a) -> x.opens(a, 0));
        range("opens(*, 1)", 0, most, (x, a) -> x.opens(a, 1));
        range("opens(0, *)", 0, 1, (x, a) -> x.opens(0, a));
        range("opens(" + most + ", *)", 0, 1, (x, a) -> x.opens(most, a));
    }

    private static void brackets() {
        int most = (1 << count(0)) - 1;
        for (int i = 0; i <= 3; i++) {
            int what = i;
            range("row(*, " + what + ")", 0, most, -10, (x, a) -> x.row(a, what));
        }
        range("row(0, *)", 0, 3, -10, (x, a) -> x.row(0, a));
        range("row(" + most + ", *)", 0, 3, -10, (x, a) -> x.row(most, a));
    }

    private static void allLists() {
        range("more(*)", 0, 4, (x, a) -> x.more(a));
        for (int i = 0; i <= 3; i++) {
            int what = i;
            range("lists(*, " + what + ")", 0, 4, (x, a) -> x.lists(a, what));
        }
        range("lists(0, *)", 0, 3, (x, a) -> x.lists(0, a));
        range("lists(4, *)", 0, 3, (x, a) -> x.lists(4, a));
        range("game(*, 0)", 0, 4, -10, (x, a) -> x.game(a, 0));
        range("game(*, 1)", 0, 4, -10, (x, a) -> x.game(a, 1));
        range("game(0, *)", 0, 1, -10, (x, a) -> x.game(0, a));
        range("game(4, *)", 0, 1, -10, (x, a) -> x.game(4, a));
        range("chance(*)", 0, 4, (x, a) -> x.chance(a));
    }

    private static void numbers() {
        range("greatest(*)", 0, 60, (x, a) -> x.greatest(a));
        for (int i = 1; i <= 30; i++) {
            int k = i;
            range("shared(*, " + k + ")", 2 * k, 60, (x, a) -> x.shared(a, k));
        }
        range("shared(60, *)", 1, 30, (x, a) -> x.shared(60, a));
        range("shared(59, *)", 1, 29, (x, a) -> x.shared(59, a));
        range("shared(7, *)", 1, 3, (x, a) -> x.shared(7, a));
        range("shared(6, *)", 1, 3, (x, a) -> x.shared(6, a));
        range("shared(2, *)", 1, 1, (x, a) -> x.shared(2, a));
        // No k is as told for fewer than 2 sorts, nor for more than 60.
        beyond("shared(1, *)", 1, 0, NoneWithin.BAD, (x, a) -> x.shared(1, a));
        beyond("shared(0, *)", 1, 0, NoneWithin.BAD, (x, a) -> x.shared(0, a));
        beyond("shared(61, *)", 1, 0, NoneWithin.BAD, (x, a) -> x.shared(61, a));
        range("several(*, 0)", 0, 7, (x, a) -> x.several(a, 0));
        range("several(*, 9)", 0, 7, (x, a) -> x.several(a, 9));
        range("several(0, *)", 0, 9, (x, a) -> x.several(0, a));
        range("several(7, *)", 0, 9, (x, a) -> x.several(7, a));
        range("things(*)", 0, 72, (x, a) -> x.things(a));
        range("middle(*)", 0, 1, (x, a) -> x.middle(a));
    }

    private static void whatThereIs() {
        range("part(*)", 0, 1, (x, a) -> x.part(a));
        range("image(*)", 0, 1, (x, a) -> x.image(a));
        range("from(*)", 0, 1, (x, a) -> x.from(a));
        range("status(*)", 0, 2, -1, (x, a) -> x.status(a));
        range("count(*)", 0, 4, (x, a) -> x.count(a));
    }
}
