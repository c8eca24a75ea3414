/** All that can be asked of an object but STATUS, as a text: to see that a refused call changed nothing else. */
final class Whole {
    private Whole() {
    }

    /** The object goes on from its text and its images here, so it is of no more use. */
    static String of(NoneWithin x) {
        StringBuilder b = new StringBuilder();
        state(b.append("now"), x);
        b.append(" part ").append(x.part(0)).append('/').append(x.part(1));
        // The bytes of THE TEXT can be seen by reading it alone.
        state(b.append(" read ").append(x.read()), x);
        for (int i = 0; i < 2; i++) {
            state(b.append(" from(").append(i).append(") ").append(x.from(i)), x);
        }
        return b.toString();
    }

    private static void state(StringBuilder b, NoneWithin x) {
        for (int what = 0; what < 5; what++) {
            b.append(' ').append(x.count(what));
        }
        for (int i = 0; i < x.count(1); i++) {
            b.append(' ').append(x.told(i, 0)).append(':').append(x.told(i, 1));
        }
        b.append(" digest ").append(x.digest());
    }
}
