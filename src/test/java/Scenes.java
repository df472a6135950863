/** Objects for the tests of bounds. Each is made by the same calls each time, so that two of a kind are alike. */
final class Scenes {
    /** The FAULT that busy() has. */
    static final int BUSY_FAULT = 1;

    private Scenes() {
    }

    static OnlyMovesHisLips empty() {
        return new OnlyMovesHisLips();
    }

    /**
     * A LEANER 0, a SINGER 1 and a HIDER 2 in the row 2 1 0; LEAST 2, NEIGHBOURS 1, EAR 10, MOST 2; the WORLD 6 is TRUE;
     * 6 and 3 are KNOWN to sound wrong. SHELF 0 holds five ints, 1 the SINGER 1, 3 forty bytes, 4 two longs, 5 no ints,
     * 7 four bytes, 2 and 6 NOTHING. There are a FAULT, a TRACE, an IMAGE and REFUSALS, one of each number.
     */
    static OnlyMovesHisLips busy() {
        OnlyMovesHisLips x = new OnlyMovesHisLips();
        x.singer(1, 2, 3);
        x.singer(0, 0, 2);
        x.isTrue(2);
        x.hear(1);
        x.seed(5);
        x.image();
        x.singer(2, 0, 4);
        x.ask(0, 2);
        x.ask(1, 2);
        x.ask(2, 1);
        x.ask(3, 10);
        x.swap(0, 2);
        x.seed(77);
        Due.row(x, 0, 3, 1, 6, 1, 7);
        x.show(1, 1);
        x.row(3, 0, 40);
        x.set(3, 39, -3);
        x.row(4, 3, 2);
        x.set(4, 1, Long.MAX_VALUE);
        x.row(5, 2, 0);
        x.isTrue(6);
        x.hear(6);
        x.hear(3);
        x.act(0, 2, 5);
        Due.loft(x, "mist");
        refusedOnceEach(x);
        return x;
    }

    private static void refusedOnceEach(OnlyMovesHisLips x) {
        x.show(8, 0);
        x.set(1, 0, 0);
        x.set(2, 0, 0);
        x.row(0, 0, -1);
        x.world(99);
        x.row(0, 0, 161);
    }

    /** Eight SINGERS. */
    static OnlyMovesHisLips full() {
        OnlyMovesHisLips x = new OnlyMovesHisLips();
        for (int i = 0; i < 8; i++) {
            x.singer(0, i, 1);
        }
        x.image();
        return x;
    }

    /** Five SINGERS, of whom 0 alone is wrong in truth; 16 HEARINGS are KNOWN, of the sets from 1 to 16. */
    static OnlyMovesHisLips sixteen() {
        OnlyMovesHisLips x = Due.choir(0, 0, 0, 0, 0);
        for (int set = 1; set <= 16; set++) {
            x.hear(set);
        }
        x.image();
        return x;
    }

    /** Two SINGERS, and no WORLD is POSSIBLE. */
    static OnlyMovesHisLips impossible() {
        OnlyMovesHisLips x = Due.choir(0, 0);
        x.heard(1, 0);
        x.hear(1);
        x.row(0, 2, 0);
        x.image();
        return x;
    }
}
