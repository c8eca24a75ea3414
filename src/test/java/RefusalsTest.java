import java.util.function.Supplier;

/** What is refused as NO and as FULL, which refusal comes first, and what is no refusal. */
public final class RefusalsTest {
    public static void main(String[] args) {
        popOfNone();
        fromNoImage();
        moreThanFourSorts();
        notLawful();
        nineMayCome();
        seventeenBoxes();
        moreThan200Bytes();
        whichComesFirst();
        noneIsNoRefusal();
        faultIsNoRefusal();
        statusCounts();
        Due.end("RefusalsTest");
    }

    private static void refused(Supplier<NoneWithin> made, String call, int reason, long want, Due.Call c) {
        Due.unchanged(made.get(), made.get(), call, reason, want, c);
    }

    private static void no(Supplier<NoneWithin> made, String call, Due.Call c) {
        refused(made, call, NoneWithin.NO, NoneWithin.NO, c);
    }

    private static void full(Supplier<NoneWithin> made, String call, Due.Call c) {
        refused(made, call, NoneWithin.FULL, NoneWithin.FULL, c);
    }

    private static void bad(Supplier<NoneWithin> made, String call, Due.Call c) {
        refused(made, call, NoneWithin.BAD, NoneWithin.BAD, c);
    }

    private static NoneWithin in(int which, int n) {
        NoneWithin x = States.make(which);
        x.sorts(n);
        return x;
    }

    private static void popOfNone() {
        no(NoneWithin::new, "pop() of a new one", x -> x.pop());
        no(() -> in(1, 3), "pop() behind sorts", x -> x.pop());
        no(() -> Due.shop("sorts 3;"), "pop() behind a read of none", x -> x.pop());
        no(() -> emptied(), "pop() of a LIST that was popped empty", x -> x.pop());
        no(() -> fromEmpty(), "pop() behind an image of none", x -> x.pop());
    }

    private static NoneWithin emptied() {
        NoneWithin x = States.full();
        for (int i = 15; i >= 0; i--) {
            Due.due("pop()", x.pop(), 31 - i);
        }
        return x;
    }

    private static NoneWithin fromEmpty() {
        NoneWithin x = States.full();
        x.from(0);
        return x;
    }

    private static void fromNoImage() {
        for (int i = 0; i < 2; i++) {
            int image = i;
            no(NoneWithin::new, "from(" + i + ") of a new one", x -> x.from(image));
            no(() -> withImage(1 - image), "from(" + i + ") where the other one was kept", x -> x.from(image));
            Due.due("from(" + i + ") where it was kept", withImage(image).from(image), 1);
        }
    }

    private static NoneWithin withImage(int i) {
        NoneWithin x = States.boxes(5, 1, 2, 3);
        x.image(i);
        x.from(i);
        return x;
    }

    private static void moreThanFourSorts() {
        for (int which = 0; which < States.MANY; which++) {
            for (int n = 5; n <= 8; n++) {
                int state = which;
                int sorts = n;
                Supplier<NoneWithin> made = () -> in(state, sorts);
                for (int i = 0; i < 5; i++) {
                    int law = i;
                    no(made, "lists(" + law + ", 0) of " + n, x -> x.lists(law, 0));
                    refused(made, "game(" + law + ", 0) of " + n, NoneWithin.NO, -20, x -> x.game(law, 0));
                    no(made, "chance(" + law + ") of " + n, x -> x.chance(law));
                }
                no(made, "lists(4, 3) of " + n, x -> x.lists(4, 3));
                refused(made, "game(4, 1) of " + n, NoneWithin.NO, -20, x -> x.game(4, 1));
            }
            NoneWithin four = in(which, 4);
            long before = four.status(1);
            for (int law = 0; law < 5; law++) {
                four.lists(law, 1);
                Due.due("game of 4 sorts is none of -20", four.game(law, 0) >= 0 ? 1 : 0, 1);
            }
            Due.due("lists and game of 4 sorts are not refused", four.status(1), before);
        }
    }

    private static void notLawful(int law, Supplier<NoneWithin> made) {
        refused(made, "game(" + law + ", 0), not LAWFUL", NoneWithin.NO, -20, x -> x.game(law, 0));
        refused(made, "game(" + law + ", 1), not LAWFUL", NoneWithin.NO, -20, x -> x.game(law, 1));
        no(made, "chance(" + law + "), not LAWFUL", x -> x.chance(law));
        // Neither of these asks that of THE LIST.
        NoneWithin x = made.get();
        Due.due("lists(" + law + ", 1)", x.lists(law, 1) > 0 ? 1 : 0, 1);
        Due.due("more(" + law + "), not LAWFUL", x.more(law), -1);
        Due.due("status(1)", x.status(1), 0);
    }

    private static void notLawful() {
        for (int law = 0; law < 5; law++) {
            notLawful(law, () -> sized(2, 3, 1));
            notLawful(law, () -> sized(2, 3, 15));
        }
        notLawful(1, () -> States.boxes(3, 1, 3));
        notLawful(1, () -> States.boxes(3, 6, 0));
        notLawful(4, () -> States.boxes(3, 1, 3));
        notLawful(2, () -> States.boxes(3, 7, 0, 1));
        notLawful(3, () -> States.boxes(3, 0));
        notLawful(3, () -> States.boxes(3, 1, 6));
        notLawful(4, () -> States.boxes(3, 0));
        notLawful(4, () -> States.boxes(3, 1, 6));
        // Two one within the other are none of three, and lawful by all but NONE and BOTH.
        NoneWithin x = States.boxes(2, 1, 3);
        Due.due("game(2, 0)", x.game(2, 0) >= 0 ? 1 : 0, 1);
        Due.due("game(3, 0)", x.game(3, 0) >= 0 ? 1 : 0, 1);
        Due.due("chance(2)", x.chance(2), 1);
        Due.due("chance(3)", x.chance(3), 1);
    }

    private static NoneWithin sized(int low, int high, int set) {
        NoneWithin x = States.boxes(4, set);
        x.sizes(low, high);
        return x;
    }

    private static void nineMayCome() {
        // Of all 16 boxes of 4 sorts as many may come by SIZED as are not in THE LIST.
        no(() -> States.boxes(4, 1, 2, 4, 8, 3, 5, 6), "chance(0), 9 may come", x -> x.chance(0));
        Due.due("chance(0), 8 may come", States.boxes(4, 1, 2, 4, 8, 3, 5, 6, 7).chance(0), 1);
        // By NONE behind ab: c, d, ac, bc, ad, bd, cd, acd, bcd; the empty one of 16 does not count.
        no(() -> States.boxes(4, 3), "chance(1), 9 may come", x -> x.chance(1));
        Due.due("chance(1), 7 may come behind a", States.boxes(4, 1).chance(1), 1);
        // By THREES behind -, ab: all but a, b, abc, abd, abcd.
        no(() -> States.boxes(4, 0, 3), "chance(2), 9 may come", x -> x.chance(2));
        Due.due("chance(2), 8 may come", States.boxes(4, 0, 3, 4, 8).chance(2), 1);
        // By SHARE behind a: the seven others with a.
        Due.due("chance(3), 7 may come", States.boxes(4, 1).chance(3), 1);
        no(() -> States.boxes(4, 3, 7), "chance(3), more than 8 may come", x -> x.chance(3));
        no(() -> in(0, 4), "chance(4), 15 may come", x -> x.chance(4));
        // Of 3 sorts all 8 may come.
        Due.due("chance(0), all 8 of 3 sorts", in(0, 3).chance(0), 1);
        Due.due("chance(2), all 8 of 3 sorts", in(0, 3).chance(2), 1);
        // It is asked of what may come now, not of what is there: 16 are, none may.
        NoneWithin x = States.boxes(4, 0, 1, 2, 3, 4, 5, 6, 7, 8, 9, 10, 11, 12, 13, 14, 15);
        Due.due("chance(0), none may come", x.chance(0), 1);
        Due.due("part(0)", x.part(0), 0);
        Due.due("part(1)", x.part(1), 1);
    }

    private static void seventeenBoxes() {
        full(States::full, "box(0, 0), a 17th", x -> x.box(0, 0));
        full(States::full, "box(15, 99), a 17th", x -> x.box(15, 99));
        NoneWithin x = States.full();
        Due.due("pop()", x.pop(), 16);
        Due.due("box(15, 99), a 16th", x.box(15, 99), 15);
        // All boxes of 4 sorts are 16: there is no other one to refuse as FULL.
        NoneWithin y = States.boxes(4, 0, 1, 2, 3, 4, 5, 6, 7, 8, 9, 10, 11, 12, 13, 14, 15);
        Due.due("status(2) of all 16 of 4 sorts", y.status(2), 0);
        Due.due("count(1) of all 16 of 4 sorts", y.count(1), 16);
    }

    private static NoneWithin typed(int bytes) {
        NoneWithin x = new NoneWithin();
        Due.write(x, "sorts 2;" + " ".repeat(bytes - 8));
        return x;
    }

    private static void moreThan200Bytes() {
        for (int i = 1; i <= 8; i++) {
            int n = i;
            full(() -> typed(201 - n), "type(0, " + n + ") at " + (201 - n), x -> x.type(0, n));
            full(() -> typed(200), "type(0, " + n + ") at 200", x -> x.type(0, n));
            Due.due("type(0, " + n + ") at " + (200 - n), typed(200 - n).type(0, n), 200);
        }
    }

    private static void whichComesFirst() {
        bad(States::full, "box(31, 0), there and a 17th", x -> x.box(31, 0));
        bad(States::full, "box(16, 0), the 16th that is there and a 17th", x -> x.box(16, 0));
        bad(States::full, "box(32, 0), none and a 17th", x -> x.box(32, 0));
        bad(States::full, "box(0, 100), a WORTH too great and a 17th", x -> x.box(0, 100));
        bad(() -> typed(200), "type(0, 9) at 200", x -> x.type(0, 9));
        bad(() -> typed(200), "type(0, 0) at 200", x -> x.type(0, 0));
        bad(() -> in(0, 5), "lists(5, 0) of 5 sorts", x -> x.lists(5, 0));
        bad(() -> in(0, 5), "lists(0, 4) of 5 sorts", x -> x.lists(0, 4));
        refused(() -> in(0, 5), "game(5, 0) of 5 sorts", NoneWithin.BAD, -10, x -> x.game(5, 0));
        refused(() -> in(0, 5), "game(0, 2) of 5 sorts", NoneWithin.BAD, -10, x -> x.game(0, 2));
        refused(() -> States.boxes(3, 1, 3), "game(1, 2), not LAWFUL", NoneWithin.BAD, -10, x -> x.game(1, 2));
        bad(() -> in(0, 5), "chance(-1) of 5 sorts", x -> x.chance(-1));
        bad(() -> in(0, 4), "chance(5), 16 may come", x -> x.chance(5));
        bad(NoneWithin::new, "from(2), none was kept", x -> x.from(2));
        bad(NoneWithin::new, "from(-1), none was kept", x -> x.from(-1));
    }

    private static void noneIsNoRefusal() {
        NoneWithin x = States.boxes(3, 1, 3, 0);
        Due.due("judge(0, 0)", x.judge(0, 0), -1);
        Due.due("kept(1, 3, 0)", x.kept(1, 3, 0), -1);
        Due.due("opens(4, 0)", x.opens(4, 0), -1);
        Due.due("row(7, 0)", x.row(7, 0), -1);
        Due.due("more(1)", x.more(1), -1);
        Due.due("game(0, 1), 5 may come", x.game(0, 1), 2);
        x.box(7, 7);
        Due.due("game(0, 1), 4 may come", x.game(0, 1), -1);
        for (int what = 0; what < 3; what++) {
            Due.due("status(" + what + ")", x.status(what), 0);
        }
    }

    /** All stays by a FAULT, and STATUS, too: it is none of BAD, NO, FULL. */
    private static void faultIsNoRefusal() {
        String[] faulty = {"", "sorts 9;", "sorts 2;box a 1;box a 1;", "sorts 2;sizes 2 1;", "sorts 8;box h 1"};
        for (int which = 0; which < States.MANY; which++) {
            for (String text : faulty) {
                NoneWithin x = States.make(which);
                NoneWithin twin = States.make(which);
                Due.write(x, text);
                Due.write(twin, text);
                Due.due("read() of '" + text + "' has a FAULT", x.read() <= -10 ? 1 : 0, 1);
                for (int what = 0; what < 3; what++) {
                    Due.due("read() of '" + text + "', status(" + what + ")", x.status(what), twin.status(what));
                }
                Due.due("read() of '" + text + "' left all", Whole.of(x).equals(Whole.of(twin)) ? 1 : 0, 1);
            }
        }
    }

    private static void statusCounts() {
        NoneWithin x = States.full();
        for (int i = 1; i <= 40; i++) {
            x.sorts(0);
            x.lists(0, 0);
            x.box(0, 0);
            x.game(0, 0);
            x.type(0, 1);
            x.type(0, 8);
            Due.due("status(0)", x.status(0), i);
            Due.due("status(1)", x.status(1), 2 * i);
            Due.due("status(2)", x.status(2), 3 * i);
        }
        x.from(0);
        Due.due("status(2) behind from", x.status(2), 120);
        Due.due("status(3)", x.status(3), -1);
        Due.due("status(0) behind it", x.status(0), 41);
    }
}
