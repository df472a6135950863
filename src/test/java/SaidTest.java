/** Promises 20 to 25: what can be said, which sets are LAWFUL, NEXT and BY NEXT. */
public final class SaidTest {
    private static final Due DUE = new Due("SaidTest");

    public static void main(String[] args) {
        may();
        likeliest();
        lawful();
        parts();
        next();
        nextByLaw();
        by();
        byOfManyWrongOnes();
        byBeyondTheRoomForHearings();
        nonePossible();
        DUE.end();
    }

    private static OnlyMovesHisLips three() {
        OnlyMovesHisLips x = new OnlyMovesHisLips();
        for (int odds = 1; odds <= 3; odds++) {
            x.singer(0, 0, odds);
        }
        return x;
    }

    private static void may() {
        OnlyMovesHisLips x = new OnlyMovesHisLips();
        DUE.is("MAY of none", x.may(0), 0);
        DUE.is("SURE of none", x.may(1), 0);
        x = three();
        DUE.is("MAY", x.may(0), 7);
        DUE.is("SURE", x.may(1), 0);
        x.heard(1, 0);
        DUE.is("MAY then", x.may(0), 6);
        x.heard(2, 0);
        DUE.is("MAY at last", x.may(0), 4);
        DUE.is("SURE at last", x.may(1), 4);
        x.ask(0, 2);
        x.heard(2, 1);
        DUE.is("MAY of two", x.may(0), 7);
        DUE.is("SURE of two", x.may(1), 2);
        DUE.is("another what", x.may(2), -5);
        DUE.is("another what below", x.may(-1), -5);
        DUE.is("status(15)", x.status(15), 2);
    }

    private static void likeliest() {
        OnlyMovesHisLips x = new OnlyMovesHisLips();
        DUE.is("of none", x.likeliest(), -5);
        x = three();
        DUE.is("MOST 1", x.likeliest(), 4);
        x.ask(0, 2);
        DUE.is("MOST 2", x.likeliest(), 6);
        x.ask(0, 3);
        DUE.is("MOST 3: 6 and 7 weigh the same", x.likeliest(), 6);
        x.heard(1, 1);
        DUE.is("of those left", x.likeliest(), 7);
        x.heard(2, 0);
        DUE.is("of those left then", x.likeliest(), 5);
        OnlyMovesHisLips same = Due.choir(0, 0, 0);
        same.ask(0, 3);
        DUE.is("all weigh the same", same.likeliest(), 1);
    }

    private static void lawful() {
        OnlyMovesHisLips x = new OnlyMovesHisLips();
        DUE.is("no SINGERS", x.lawful(1), 0);
        x = Due.choir(0, 0, 0, 0);
        for (int set = -1; set <= 17; set++) {
            DUE.is("lawful(" + set + ")", x.lawful(set), set > 0 && set < 16 ? 1 : 0);
        }
        x.ask(1, 2);
        DUE.is("one of two", x.lawful(4), 0);
        DUE.is("two of two", x.lawful(9), 1);
        x.ask(2, 1);
        int[] inARow = {3, 6, 12, 7, 14, 15};
        int[] withGaps = {5, 9, 10, 11, 13, 1, 8};
        for (int set : inARow) {
            DUE.is("neighbours " + set, x.lawful(set), 1);
        }
        for (int set : withGaps) {
            DUE.is("no neighbours " + set, x.lawful(set), 0);
        }
        x.ask(1, 1);
        DUE.is("alone", x.lawful(8), 1);
        x.swap(1, 3);
        // the row: 0 3 2 1
        DUE.is("neighbours by PLACES", x.lawful(9), 1);
        DUE.is("no neighbours by PLACES", x.lawful(3), 0);
        DUE.is("the last two", x.lawful(6), 1);
        x.ask(1, 8);
        DUE.is("more than there are", x.lawful(15), 0);
        for (int what = 11; what <= 17; what++) {
            DUE.is("nothing refused: status(" + what + ")", x.status(what), 0);
        }
        OnlyMovesHisLips eight = Due.choir(0, 0, 0, 0, 0, 0, 0, 0);
        eight.ask(2, 1);
        int many = 0;
        for (int set = 0; set < 300; set++) {
            many += eight.lawful(set);
        }
        DUE.is("neighbours of eight", many, 36);
    }

    private static void parts() {
        OnlyMovesHisLips x = three();
        DUE.is("PARTS of 1", x.parts(1, 0), 1);
        DUE.is("WORST of 1", x.parts(1, 1), 2);
        DUE.is("PARTS of 3", x.parts(3, 0), 2);
        DUE.is("WORST of 3", x.parts(3, 1), 2);
        DUE.is("PARTS of 7", x.parts(7, 0), 3);
        DUE.is("WORST of 7", x.parts(7, 1), 3);
        x.heard(1, 0);
        DUE.is("PARTS of 1 then", x.parts(1, 0), 0);
        DUE.is("WORST of 1 then", x.parts(1, 1), 2);
        x.ask(1, 3);
        DUE.is("not LAWFUL", x.parts(2, 0), 1);
        DUE.is("an empty set", x.parts(0, 0), -6);
        DUE.is("others", x.parts(8, 1), -6);
        DUE.is("below", x.parts(-1, 1), -6);
        DUE.is("another what, ahead of the set", x.parts(0, 2), -5);
        DUE.is("another what below", x.parts(1, -1), -5);
        DUE.is("status(15)", x.status(15), 2);
        DUE.is("status(16)", x.status(16), 3);
    }

    private static void next() {
        OnlyMovesHisLips x = new OnlyMovesHisLips();
        DUE.is("no SINGERS", x.next(), -1);
        x = Due.choir(0);
        DUE.is("one SINGER", x.next(), -1);
        x = three();
        DUE.is("three", x.next(), 1);
        x.heard(1, 0);
        DUE.is("two left", x.next(), 2);
        x.heard(2, 0);
        DUE.is("one left", x.next(), -1);
        x = Due.choir(0, 0, 0, 0);
        DUE.is("halves of four", x.next(), 3);
        x = Due.choir(0, 0, 0, 0, 0, 0, 0, 0);
        DUE.is("halves of eight", x.next(), 15);
        x.heard(15, 0);
        DUE.is("halves of the others", x.next(), 48);
        x = Due.choir(4, 4, 4);
        DUE.is("never heard", x.next(), -1);
        x = Due.choir(4, 0, 4);
        DUE.is("one who is heard", x.next(), 2);
        DUE.is("nothing refused", x.status(15), 0);
    }

    private static void nextByLaw() {
        OnlyMovesHisLips x = Due.choir(0, 0, 0, 0);
        x.ask(1, 3);
        DUE.is("three at least", x.next(), 7);
        x.ask(1, 4);
        DUE.is("all or none", x.next(), -1);
        x.ask(1, 2);
        x.ask(2, 1);
        DUE.is("two neighbours", x.next(), 3);
        x.swap(1, 2);
        // the row: 0 2 1 3
        DUE.is("two neighbours by PLACES", x.next(), 5);
    }

    private static void by(OnlyMovesHisLips x, int worst, int mean, int left) {
        DUE.is("at WORST", x.by(0), worst);
        DUE.is("the MEAN", x.by(1), mean);
        DUE.is("LEFT", x.by(2), left);
    }

    private static void by() {
        OnlyMovesHisLips x = three();
        // 1 after one, 2 and 4 after two: (1 * 1 + 2 * 2 + 3 * 2) / 6
        by(x, 2, 1833, 1);
        x.heard(1, 0);
        by(x, 1, 1000, 1);
        x.heard(2, 0);
        by(x, 0, 0, 1);
        x.forget();
        x.ask(1, 3);
        by(x, 0, 0, 3);
        x = Due.choir(0, 4, 4);
        // only 1 can be told from the others
        by(x, 1, 1000, 2);
        DUE.is("another what", x.by(3), -5);
        DUE.is("another what below", x.by(-1), -5);
        DUE.is("nothing is changed", x.known(-1), 0);
        DUE.is("status(15)", x.status(15), 2);
        OnlyMovesHisLips none = new OnlyMovesHisLips();
        DUE.is("none POSSIBLE", none.by(0), -5);
        DUE.is("none POSSIBLE, LEFT", none.by(2), -5);
    }

    private static void byOfManyWrongOnes() {
        OnlyMovesHisLips x = three();
        x.ask(0, 2);
        // 1: wrong, then 2: 3 alone after two, 1 and 5 after three; right, then 2: 4 alone after two, 2 and 6 after three:
        // (2 * 2 + 3 * 2 + (1 + 3 + 2 + 6) * 3) / 17
        by(x, 3, 2705, 1);
    }

    private static void byBeyondTheRoomForHearings() {
        OnlyMovesHisLips x = Due.choir(0, 0, 0, 0, 0, 0, 0, 0);
        x.ask(0, 3);
        x.ask(1, 6);
        // each of the 28 pairs sounds right only by the six others; the 56 threes sound wrong by all
        DUE.is("at WORST", x.by(0), 28);
        DUE.is("LEFT", x.by(2), 56);
    }

    private static void nonePossible() {
        OnlyMovesHisLips x = Due.choir(0, 0);
        x.heard(1, 0);
        DUE.is("hear(1)", x.hear(1), 1);
        DUE.is("POSSIBLE", x.worlds(1), 0);
        DUE.is("both KNOWN", x.known(-1), 2);
        DUE.is("MAY", x.may(0), 0);
        DUE.is("SURE", x.may(1), 0);
        DUE.is("LIKELIEST", x.likeliest(), -5);
        DUE.is("PARTS", x.parts(1, 0), 0);
        DUE.is("WORST", x.parts(1, 1), 0);
        DUE.is("NEXT", x.next(), -1);
        DUE.is("BY NEXT", x.by(0), -5);
        DUE.is("world", x.world(0), -5);
        DUE.is("a hearing more", x.hear(2), 0);
        DUE.is("TRUE", x.status(6), 1);
    }
}
