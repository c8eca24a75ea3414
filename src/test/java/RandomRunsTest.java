import java.util.Random;

/** Runs of calls drawn from fixed seeds, on the class and on the model side by side. */
public final class RandomRunsTest {
    private static final String SIGNS = "abcdh-;0129 sortsizebox A\t";
    private final Random r;
    private final NoneWithin x = new NoneWithin();
    private final Model m = new Model();
    private final StringBuilder said = new StringBuilder();
    private final int run;

    private RandomRunsTest(int run) {
        this.run = run;
        this.r = new Random(run);
    }

    public static void main(String[] args) {
        for (int run = 0; run < 1500; run++) {
            RandomRunsTest t = new RandomRunsTest(run);
            t.begin();
            for (int i = 0; i < 60; i++) {
                t.step();
            }
            t.ends();
        }
        Due.end("RandomRunsTest");
    }

    private void due(String call, long got, long want) {
        said.append(call).append(' ');
        Due.due(got == want ? call : "run " + run + ": " + said, got, want);
    }

    private void begin() {
        int n = r.nextInt(3) == 0 ? 1 + r.nextInt(8) : 3 + r.nextInt(2);
        due("sorts(" + n + ")", x.sorts(n), m.sorts(n));
        for (int i = r.nextInt(20) == 0 ? 17 : r.nextInt(11); i > 0; i--) {
            putBox();
        }
    }

    private void ends() {
        for (int what = 0; what < 3; what++) {
            due("status(" + what + ")", x.status(what), m.status(what));
        }
        due("digest()", x.digest(), m.digest());
    }

    /** Mostly a number of the range, now and then one beside it. */
    private int some(int low, int high) {
        int draw = r.nextInt(40);
        if (draw == 0) return low - 1;
        if (draw == 1) return high + 1;
        if (draw == 2 && r.nextInt(5) == 0) return r.nextBoolean() ? Integer.MIN_VALUE : Integer.MAX_VALUE;
        return low + r.nextInt(high - low + 1);
    }

    private int someBox() {
        return some(0, (1 << m.count(0)) - 1);
    }

    private void putBox() {
        int set = someBox();
        int worth = r.nextInt(3) == 0 ? r.nextInt(3) : some(0, 99);
        due("box(" + set + ", " + worth + ")", x.box(set, worth), m.box(set, worth));
    }

    private void step() {
        switch (r.nextInt(9)) {
            case 0:
                putBox();
                break;
            case 1:
                changes();
                break;
            case 2:
                texts();
                break;
            case 3:
            case 4:
                asksOfList();
                break;
            case 5:
            case 6:
                asksOfAll();
                break;
            case 7:
                numbers();
                break;
            default:
                whatThereIs();
        }
    }

    private void changes() {
        int draw = r.nextInt(12);
        int a = some(0, 8);
        int b = some(0, 8);
        if (draw == 0) {
            due("sorts(" + a + ")", x.sorts(a), m.sorts(a));
        } else if (draw < 3) {
            due("sizes(" + a + ", " + b + ")", x.sizes(a, b), m.sizes(a, b));
        } else if (draw < 5) {
            int low = r.nextInt(3);
            due("sizes(" + low + ", 8)", x.sizes(low, 8), m.sizes(low, 8));
        } else if (draw < 8) {
            due("pop()", x.pop(), m.pop());
        } else {
            int i = some(0, Math.max(0, m.count(1) - 1));
            int what = some(0, 1);
            due("told(" + i + ", " + what + ")", x.told(i, what), m.told(i, what));
        }
    }

    private void texts() {
        int draw = r.nextInt(4);
        if (draw == 0) {
            long v = r.nextLong();
            int n = some(1, 8);
            due("type(" + v + ", " + n + ")", x.type(v, n), m.type(v, n));
            return;
        }
        due("clear()", x.clear(), m.clear());
        String text = draw == 1 ? someShop() : spoilt(someShop());
        for (int i = 0; i < text.length(); i++) {
            long v = text.charAt(i) + 256L * r.nextInt();
            due("type(" + v + ", 1)", x.type(v, 1), m.type(v, 1));
        }
        said.append('\'').append(text).append("' ");
        due("read()", x.read(), m.read());
        due("digest()", x.digest(), m.digest());
    }

    private String blanks() {
        return r.nextInt(4) == 0 ? " " : "";
    }

    private String someShop() {
        int n = 1 + r.nextInt(8);
        StringBuilder b = new StringBuilder(blanks());
        b.append("sorts ").append(n).append(blanks()).append(';').append(blanks());
        int items = r.nextInt(20);
        for (int i = 0; i < items; i++) {
            if (r.nextInt(8) == 0) {
                int low = r.nextInt(5);
                b.append("sizes").append(blanks()).append(low).append(' ').append(low + r.nextInt(5));
            } else {
                b.append("box ");
                int set = r.nextInt(1 << n);
                for (int k = 0; k < n; k++) {
                    b.append((set >> k & 1) == 1 ? String.valueOf((char) ('a' + k)) : "");
                }
                b.append(set == 0 ? "-" : "").append(blanks()).append(r.nextInt(r.nextInt(9) == 0 ? 120 : 12));
            }
            b.append(blanks()).append(';').append(blanks());
        }
        return b.toString();
    }

    private String spoilt(String text) {
        StringBuilder b = new StringBuilder(text);
        for (int i = r.nextInt(3); i >= 0 && b.length() > 0; i--) {
            int at = r.nextInt(b.length());
            char sign = r.nextInt(9) == 0 ? (char) r.nextInt(256) : SIGNS.charAt(r.nextInt(SIGNS.length()));
            switch (r.nextInt(4)) {
                case 0:
                    b.setCharAt(at, sign);
                    break;
                case 1:
                    b.insert(at, sign);
                    break;
                case 2:
                    b.deleteCharAt(at);
                    break;
                default:
                    b.setLength(at);
            }
        }
        return b.toString();
    }

    private void asksOfList() {
        int law = some(0, 4);
        int size = m.count(1);
        int what = some(0, 3);
        int one = some(0, 1);
        switch (r.nextInt(9)) {
            case 0:
            case 1:
                due("judge(" + law + ", " + one + ")", x.judge(law, one), m.judge(law, one));
                break;
            case 2:
                due("fullness()", x.fullness(), m.fullness());
                break;
            case 3:
            case 4:
                int wishes = r.nextBoolean() ? 0 : some(0, (1 << size) - 1) & (r.nextBoolean() ? -1 : r.nextInt());
                due("kept(" + law + ", " + wishes + ", " + what + ")", x.kept(law, wishes, what), m.kept(law, wishes, what));
                break;
            case 5:
                due("rows(" + one + ")", x.rows(one), m.rows(one));
                break;
            case 6:
                int set = someBox();
                due("opens(" + set + ", " + one + ")", x.opens(set, one), m.opens(set, one));
                break;
            case 7:
                due("alone()", x.alone(), m.alone());
                break;
            default:
                int of = someBox();
                due("row(" + of + ", " + what + ")", x.row(of, what), m.row(of, what));
        }
    }

    private void asksOfAll() {
        int law = some(0, 4);
        int what = some(0, 3);
        int one = some(0, 1);
        // What the model finds slowly is asked less often.
        int draw = r.nextInt(m.count(0) == 4 ? 16 : 8);
        if (draw == 0) {
            due("lists(" + law + ", " + what + ")", x.lists(law, what), m.lists(law, what));
        } else if (draw == 1) {
            due("game(" + law + ", " + one + ")", x.game(law, one), m.game(law, one));
        } else if (draw < 5) {
            due("chance(" + law + ")", x.chance(law), m.chance(law));
            due("digest()", x.digest(), m.digest());
        } else {
            due("more(" + law + ")", x.more(law), m.more(law));
        }
    }

    private void numbers() {
        int n = some(0, 60);
        int k = some(1, 30);
        int what = some(0, 1);
        switch (r.nextInt(6)) {
            case 0:
                due("greatest(" + n + ")", x.greatest(n), m.greatest(n));
                break;
            case 1:
                due("shared(" + n + ", " + k + ")", x.shared(n, k), m.shared(n, k));
                break;
            case 2:
            case 3:
                int sort = some(0, 7);
                int many = some(0, 9);
                due("several(" + sort + ", " + many + ")", x.several(sort, many), m.several(sort, many));
                break;
            case 4:
                int s = r.nextBoolean() ? some(0, 72) : some(0, 20);
                due("things(" + s + ")", x.things(s), m.things(s));
                break;
            default:
                due("middle(" + what + ")", x.middle(what), m.middle(what));
        }
    }

    private void whatThereIs() {
        int one = some(0, 1);
        switch (r.nextInt(6)) {
            case 0:
                due("part(" + one + ")", x.part(one), m.part(one));
                break;
            case 1:
                due("image(" + one + ")", x.image(one), m.image(one));
                break;
            case 2:
                due("from(" + one + ")", x.from(one), m.from(one));
                break;
            case 3:
                int of = some(0, 2);
                due("status(" + of + ")", x.status(of), m.status(of));
                break;
            case 4:
                int what = some(0, 4);
                due("count(" + what + ")", x.count(what), m.count(what));
                break;
            default:
                due("digest()", x.digest(), m.digest());
        }
    }
}
