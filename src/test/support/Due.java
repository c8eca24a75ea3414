/** What the project's tests have in common: answers that are due, and texts to type. */
final class Due {
    private static int checks = 0;
    private static int wrong = 0;

    private Due() {
    }

    static void due(String call, long got, long want) {
        checks++;
        if (got != want) {
            wrong++;
            if (wrong <= 50) {
                System.out.println(call + " answered " + got + ", due is " + want);
            }
        }
    }

    /** Checks that a call was refused, counted so once, and changed nothing else. */
    static void refused(NoneWithin x, String call, int reason, long want, Call c) {
        long bad = x.status(0);
        long no = x.status(1);
        long full = x.status(2);
        long digest = x.digest();
        due(call, c.answer(x), want);
        due(call + ", then status(0)", x.status(0), bad + (reason == NoneWithin.BAD ? 1 : 0));
        due(call + ", then status(1)", x.status(1), no + (reason == NoneWithin.NO ? 1 : 0));
        due(call + ", then status(2)", x.status(2), full + (reason == NoneWithin.FULL ? 1 : 0));
        due(call + ", then digest()", x.digest(), digest);
    }

    /** The same, where a twin that was not asked tells what nothing else means: all that can be asked but STATUS. */
    static void unchanged(NoneWithin x, NoneWithin twin, String call, int reason, long want, Call c) {
        int[] status = {twin.status(0), twin.status(1), twin.status(2)};
        status[NoneWithin.BAD - reason]++;
        due(call, c.answer(x), want);
        for (int what = 0; what < 3; what++) {
            due(call + ", then status(" + what + ")", x.status(what), status[what]);
        }
        String now = Whole.of(x);
        String before = Whole.of(twin);
        if (!now.equals(before)) {
            System.out.println(call + " left " + now + System.lineSeparator() + "where there was " + before);
        }
        due(call + " left all as it was", now.equals(before) ? 1 : 0, 1);
    }

    static void bad(NoneWithin x, String call, Call c) {
        refused(x, call, NoneWithin.BAD, NoneWithin.BAD, c);
    }

    static void no(NoneWithin x, String call, Call c) {
        refused(x, call, NoneWithin.NO, NoneWithin.NO, c);
    }

    static void full(NoneWithin x, String call, Call c) {
        refused(x, call, NoneWithin.FULL, NoneWithin.FULL, c);
    }

    interface Call {
        long answer(NoneWithin x);
    }

    /** Types a text in place of the one that is there, eight bytes a call. */
    static void write(NoneWithin x, String text) {
        x.clear();
        for (int i = 0; i < text.length(); i += 8) {
            String piece = text.substring(i, Math.min(i + 8, text.length()));
            long v = 0;
            for (int j = 0; j < piece.length(); j++) {
                v = v << 8 | piece.charAt(j);
            }
            x.type(v, piece.length());
        }
    }

    static NoneWithin shop(String text) {
        NoneWithin x = new NoneWithin();
        write(x, text);
        if (x.read() < 0) {
            due("read() of " + text, -1, 0);
        }
        return x;
    }

    static void end(String name) {
        System.out.println(name + ": " + checks + " checks, " + wrong + " wrong");
        if (wrong != 0 || checks == 0) {
            System.exit(1);
        }
    }
}
