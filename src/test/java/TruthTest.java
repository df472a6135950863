/** Promises 30 to 36: PLACES, what is TRUE, HEARINGS in truth, EVENINGS by draws. */
public final class TruthTest {
    private static final Due DUE = new Due("TruthTest");

    public static void main(String[] args) {
        beside();
        quiet();
        swap();
        isTrue();
        hear();
        hearWithoutRoom();
        evenings();
        eveningsWithoutRoom();
        seed();
        DUE.end();
    }

    private static void beside() {
        DUE.is("no SINGERS", new OnlyMovesHisLips().beside(), -1);
        DUE.is("one SINGER", Due.choir(0).beside(), -1);
        DUE.is("SINGERS alone", Due.choir(0, 0, 0).beside(), -1);
        OnlyMovesHisLips x = Due.choir(1, 0, 0);
        DUE.is("a LEANER to stand behind the second", x.beside(), 1);
        DUE.is("nothing is changed", x.singerOf(0, 3), 0);
        DUE.is("nor how it sounds", x.sounds(7, 1), 1);
        x.swap(0, 1);
        DUE.is("it does already", x.beside(), -1);
        x = Due.choir(4, 1, 0);
        x.ask(0, 2);
        x.isTrue(3);
        DUE.is("the third to stand ahead", x.beside(), 2);
        x = Due.choir(4, 4, 1, 4);
        x.ask(0, 2);
        x.swap(0, 2);
        x.swap(0, 1);
        // the row: 2 0 1 3
        x.isTrue(5);
        DUE.is("the last to stand ahead of all", x.beside(), 203);
        DUE.is("PLACE of 2", x.singerOf(2, 3), 0);
        DUE.is("PLACE of 3", x.singerOf(3, 3), 3);
        x.ask(1, 8);
        DUE.is("whatever the LAW", x.beside(), 203);
        DUE.is("TRUE", x.status(6), 5);
    }

    private static void quiet() {
        DUE.is("no SINGERS", new OnlyMovesHisLips().quiet(), -5);
        DUE.is("a SINGER", Due.choir(0).quiet(), 0);
        DUE.is("a MUTE", Due.choir(4).quiet(), 1);
        DUE.is("a LEANER first", Due.choir(1, 0).quiet(), 1);
        DUE.is("a LEANER second", Due.choir(0, 1).quiet(), 1);
        DUE.is("a LEANER and a MUTE", Due.choir(1, 4).quiet(), 2);
        OnlyMovesHisLips x = Due.choir(4, 5, 4, 0);
        // the MUTES, and the SHADOW at an end
        DUE.is("a SHADOW", x.quiet(), 3);
        DUE.is("nothing is changed", x.singerOf(1, 3), 1);
        DUE.is("nor how it sounds", x.sounds(15, 2), 1);
        x.heard(15, 1);
        DUE.is("of WORLDS, not of POSSIBLE ones", x.quiet(), 3);
        x.ask(0, 2);
        // 0, 2, 1 (at the end) and their pairs
        DUE.is("of two wrong ones", x.quiet(), 6);
        DUE.is("status(15)", x.status(15), 0);
    }

    private static void swap() {
        OnlyMovesHisLips x = Due.choir(0, 0, 0);
        x.isTrue(4);
        x.hear(1);
        DUE.is("swap(0, 3)", x.swap(0, 3), -1);
        DUE.is("swap(-1, 0)", x.swap(-1, 0), -1);
        DUE.is("swap(3, 3)", x.swap(3, 3), -1);
        DUE.is("swap(1, 1)", x.swap(1, 1), -6);
        DUE.is("still KNOWN", x.known(-1), 1);
        DUE.is("still TRUE", x.status(6), 4);
        DUE.is("swap(0, 2)", x.swap(0, 2), 1);
        int[] places = {2, 1, 0};
        for (int i = 0; i < 3; i++) {
            DUE.is("PLACE of " + i, x.singerOf(i, 3), places[i]);
        }
        DUE.is("none KNOWN", x.known(-1), 0);
        DUE.is("the first is TRUE", x.status(6), 1);
        DUE.is("all POSSIBLE", x.worlds(1), 3);
        DUE.is("swap(2, 1)", x.swap(2, 1), 1);
        int[] then = {2, 0, 1};
        for (int i = 0; i < 3; i++) {
            DUE.is("then PLACE of " + i, x.singerOf(i, 3), then[i]);
        }
        DUE.is("one who comes", x.singer(0, 0, 1), 3);
        DUE.is("his PLACE", x.singerOf(3, 3), 3);
    }

    private static void isTrue() {
        OnlyMovesHisLips x = new OnlyMovesHisLips();
        DUE.is("no WORLD", x.isTrue(0), -6);
        x = Due.choir(0, 0, 0);
        DUE.is("isTrue(4)", x.isTrue(4), 1);
        DUE.is("isTrue(2)", x.isTrue(2), 4);
        x.hear(1);
        DUE.is("too many wrong ones", x.isTrue(3), -6);
        DUE.is("none wrong", x.isTrue(0), -6);
        DUE.is("others than there are", x.isTrue(8), -6);
        DUE.is("below", x.isTrue(-1), -6);
        DUE.is("still KNOWN", x.known(-1), 1);
        DUE.is("the same", x.isTrue(2), 2);
        DUE.is("none KNOWN then", x.known(-1), 0);
        x.heard(2, 0);
        DUE.is("one that isn't POSSIBLE", x.isTrue(2), 2);
        DUE.is("status(6)", x.status(6), 2);
        DUE.is("status(16)", x.status(16), 4);
    }

    private static void hear() {
        OnlyMovesHisLips x = Due.choir(0, 0, 0);
        x.isTrue(4);
        DUE.is("hear(4)", x.hear(4), 1);
        DUE.is("hear(3)", x.hear(3), 0);
        DUE.is("hear(4) again", x.hear(4), 1);
        DUE.is("KNOWN", x.known(-1), 2);
        DUE.is("first", x.known(0), 9);
        DUE.is("second", x.known(1), 6);
        DUE.is("POSSIBLE", x.worlds(1), 1);
        DUE.is("empty", x.hear(0), -6);
        DUE.is("others", x.hear(8), -6);
        DUE.is("below", x.hear(-4), -6);
        x.ask(1, 2);
        DUE.is("too few", x.hear(4), -6);
        x.ask(2, 1);
        DUE.is("a gap", x.hear(5), -6);
        DUE.is("LAWFUL", x.hear(6), 1);
        DUE.is("KNOWN then", x.known(-1), 3);
        DUE.is("status(16)", x.status(16), 5);
        DUE.is("no SINGERS", new OnlyMovesHisLips().hear(1), -6);
    }

    private static void hearWithoutRoom() {
        OnlyMovesHisLips x = Due.choir(0, 0, 0, 0, 0);
        for (int set = 1; set <= 16; set++) {
            DUE.is("hear(" + set + ")", x.hear(set), set & 1);
        }
        DUE.is("no room", x.hear(17), -7);
        DUE.is("what is KNOWN wants none", x.hear(16), 0);
        DUE.is("-6 ahead of -7", x.hear(32), -6);
        DUE.is("KNOWN", x.known(-1), 16);
        DUE.is("the last", x.known(15), 32);
        DUE.is("status(17)", x.status(17), 1);
    }

    private static void evenings() {
        OnlyMovesHisLips x = new OnlyMovesHisLips();
        DUE.is("no SINGERS", x.evenings(0), -5);
        x = Due.choir(0, 0, 0);
        DUE.is("none", x.evenings(0), -6);
        DUE.is("below", x.evenings(-1), -6);
        DUE.is("21", x.evenings(21), -6);
        DUE.is("no draw was made", x.status(7), 1);
        x.heard(1, 1);
        // 1103527590: 16838 modulo 3 is 2: the WORLD 4, told by 1 and 2
        DUE.is("the first", x.evenings(1), 2);
        DUE.is("SEED", x.status(7), 1103527590);
        DUE.is("TRUE", x.status(6), 4);
        DUE.is("KNOWN", x.known(-1), 2);
        DUE.is("first", x.known(0), 2);
        DUE.is("second", x.known(1), 4);
        DUE.is("POSSIBLE", x.worlds(1), 1);
        // -1770082073: 38526 modulo 3 is 0: the WORLD 1, told by 1
        DUE.is("the second", x.evenings(1), 1);
        DUE.is("SEED then", x.status(7), -1770082073);
        DUE.is("TRUE then", x.status(6), 1);
        DUE.is("KNOWN then", x.known(0), 3);
        OnlyMovesHisLips both = Due.choir(0, 0, 0);
        DUE.is("both", both.evenings(2), 3);
        DUE.is("SEED of both", both.status(7), -1770082073);
        DUE.is("20", both.evenings(20) > 19 ? 1 : 0, 1);
        OnlyMovesHisLips alone = Due.choir(0);
        DUE.is("one SINGER", alone.evenings(20), 0);
        OnlyMovesHisLips bound = Due.choir(0, 0, 0);
        bound.ask(1, 3);
        DUE.is("no NEXT by LAW", bound.evenings(20), 0);
        DUE.is("status(15)", x.status(15), 0);
        DUE.is("status(16)", x.status(16), 3);
    }

    private static void eveningsWithoutRoom() {
        OnlyMovesHisLips x = Due.choir(0, 0, 0, 0, 0, 0, 0, 0);
        x.ask(0, 3);
        x.ask(1, 6);
        x.seed(5);
        // 18655 modulo 92 is 71: three wrong ones, whom no set of six tells from others
        DUE.is("as many as there is room for", x.evenings(1), 16);
        DUE.is("KNOWN", x.known(-1), 16);
        x.seed(1);
        // 16838 modulo 92 is 2: the WORLD 4, by 63, 207, 243 (right), 119, 123 (right)
        DUE.is("room enough", x.evenings(1), 5);
        int[] known = {127, 415, 486, 239, 246};
        for (int i = 0; i < known.length; i++) {
            DUE.is("known(" + i + ")", x.known(i), known[i]);
        }
    }

    private static void seed() {
        OnlyMovesHisLips x = Due.choir(0, 0, 0);
        DUE.is("at first", x.seed(5), 1);
        DUE.is("then", x.seed(Integer.MIN_VALUE), 5);
        DUE.is("then again", x.seed(0), Integer.MIN_VALUE);
        x.evenings(1);
        DUE.is("a draw from 0", x.seed(1), 12345);
        DUE.is("HEARINGS stay", x.known(-1) > 0 ? 1 : 0, 1);
        for (int what = 11; what <= 17; what++) {
            DUE.is("nothing refused: status(" + what + ")", x.status(what), 0);
        }
    }
}
