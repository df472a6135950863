import java.util.function.Supplier;
import java.util.function.ToLongFunction;

/**
 * All that can be seen of an object, as a text. Two objects made by the same calls look the same, so a call that is to
 * change nothing is made on one of two such, and both are looked at then: that keeps each under its 512 calls.
 */
final class Look {
    private static final int[] ELEMENTS = {0, 1, 2, 3, 4, 39, 159};

    private Look() {
    }

    /** A call of which nothing but one REFUSAL is counted; answer is what it answers, refusal from 1 to 7. */
    static void refused(Due due, String call, Supplier<OnlyMovesHisLips> scene, ToLongFunction<OnlyMovesHisLips> made,
            int answer, int refusal) {
        OnlyMovesHisLips x = scene.get();
        OnlyMovesHisLips twin = scene.get();
        due.is(call, made.applyAsLong(x), answer);
        for (int i = 1; i <= 7; i++) {
            due.is("REFUSALS -" + i + " after " + call, x.status(10 + i), twin.status(10 + i) + (i == refusal ? 1 : 0));
        }
        due.same("all else after " + call, of(x), of(twin));
    }

    /** A call that changes nothing and isn't refused. */
    static void unchanged(Due due, String call, Supplier<OnlyMovesHisLips> scene, ToLongFunction<OnlyMovesHisLips> made,
            long answer) {
        OnlyMovesHisLips x = scene.get();
        OnlyMovesHisLips twin = scene.get();
        due.is(call, made.applyAsLong(x), answer);
        for (int i = 1; i <= 7; i++) {
            due.is("REFUSALS -" + i + " after " + call, x.status(10 + i), twin.status(10 + i));
        }
        due.same("all after " + call, of(x), of(twin));
    }

    /** What is seen, and, last of all, what THE IMAGE has: the object is as that then. REFUSALS aren't of it. */
    static String of(OnlyMovesHisLips x) {
        StringBuilder t = new StringBuilder();
        t.append("fault ").append(x.fault()).append(" ran ").append(x.status(8)).append(" trace");
        for (int i = 0; i < 12; i++) {
            t.append(' ').append(x.trace(i));
        }
        for (int s = 0; s < 8; s++) {
            shelf(x, s, t);
        }
        loft(x, t);
        t.append(" image ").append(x.restore());
        loft(x, t);
        return t.toString();
    }

    private static void shelf(OnlyMovesHisLips x, int s, StringBuilder t) {
        int held = x.holds(s);
        t.append(" shelf ").append(held);
        if (held < 100) {
            return;
        }
        for (int i : ELEMENTS) {
            long was = x.element(s, i);
            // put in again it stays as it was, and tells whether there is such an element
            t.append(' ').append(x.set(s, i, was)).append(' ').append(was);
        }
    }

    private static void loft(OnlyMovesHisLips x, StringBuilder t) {
        t.append(" status");
        for (int what = 0; what <= 7; what++) {
            t.append(' ').append(x.status(what));
        }
        t.append(" singers");
        for (int i = 0; i < x.status(0); i++) {
            for (int what = 0; what <= 4; what++) {
                t.append(' ').append(x.singerOf(i, what));
            }
        }
        t.append(" known");
        for (int i = 0; i < x.status(5); i++) {
            t.append(' ').append(x.known(i));
        }
        t.append(" worlds ").append(x.worlds(0)).append(' ').append(x.worlds(1)).append(' ').append(x.may(0)).append(' ')
            .append(x.may(1)).append(' ').append(x.next()).append(' ').append(x.by(2)).append(' ').append(x.quiet());
        for (int i = 0; i < 40 && i < x.worlds(1); i++) {
            t.append(' ').append(x.world(i));
        }
    }
}
