/** Promises 9 to 11: SINGERS, what is told of them, and what is asked. */
public final class SingersTest {
    private static final Due DUE = new Due("SingersTest");

    public static void main(String[] args) {
        singer();
        singerForgets();
        singerOf();
        likely();
        ask();
        askForMostForgets();
        askForTheLawForgetsNothing();
        DUE.end();
    }

    private static void singer() {
        OnlyMovesHisLips x = new OnlyMovesHisLips();
        DUE.is("no KIND", x.singer(7, 10, 0), -1);
        DUE.is("no KIND below", x.singer(-1, 0, 1), -1);
        DUE.is("a", x.singer(0, 10, 1), -6);
        DUE.is("a below", x.singer(0, -1, 1), -6);
        DUE.is("ODDS 0", x.singer(0, 0, 0), -6);
        DUE.is("ODDS 10", x.singer(0, 0, 10), -6);
        DUE.is("none came", x.status(0), 0);
        for (int i = 0; i < 8; i++) {
            DUE.is("singer " + i, x.singer(i % 7, 9, 9), i);
            DUE.is("his PLACE", x.singerOf(i, 3), i);
        }
        DUE.is("no room", x.singer(0, 0, 1), -7);
        DUE.is("-6 ahead of -7", x.singer(0, 0, 10), -6);
        DUE.is("-1 ahead of -7", x.singer(7, 0, 1), -1);
        DUE.is("status(0)", x.status(0), 8);
    }

    private static void singerForgets() {
        OnlyMovesHisLips x = Due.choir(0, 0);
        x.isTrue(2);
        x.hear(1);
        DUE.is("KNOWN", x.known(-1), 1);
        x.singer(4, 0, 1);
        DUE.is("none KNOWN", x.known(-1), 0);
        DUE.is("the first is TRUE", x.status(6), 1);
        DUE.is("all POSSIBLE", x.worlds(1), 3);
    }

    private static void singerOf() {
        OnlyMovesHisLips x = new OnlyMovesHisLips();
        x.singer(5, 7, 9);
        x.singer(3, 2, 4);
        x.swap(0, 1);
        int[][] told = {{5, 7, 9, 1}, {3, 2, 4, 0}};
        for (int i = 0; i < 2; i++) {
            for (int what = 0; what < 4; what++) {
                DUE.is("singerOf(" + i + ", " + what + ")", x.singerOf(i, what), told[i][what]);
            }
        }
        DUE.is("no such one", x.singerOf(2, 0), -5);
        DUE.is("no such one below", x.singerOf(-1, 4), -5);
        DUE.is("another what", x.singerOf(0, 5), -5);
        DUE.is("another what below", x.singerOf(0, -1), -5);
        DUE.is("status(15)", x.status(15), 4);
    }

    private static void likely() {
        OnlyMovesHisLips x = new OnlyMovesHisLips();
        for (int odds = 1; odds <= 3; odds++) {
            x.singer(0, 0, odds);
        }
        DUE.is("1 of 6", x.singerOf(0, 4), 166);
        DUE.is("2 of 6", x.singerOf(1, 4), 333);
        DUE.is("3 of 6", x.singerOf(2, 4), 500);
        x.ask(0, 2);
        // the WEIGHTS of 1, 2, 4, 3, 5, 6: 1, 2, 3, 2, 3, 6
        DUE.is("6 of 17", x.singerOf(0, 4), 352);
        DUE.is("10 of 17", x.singerOf(1, 4), 588);
        DUE.is("12 of 17", x.singerOf(2, 4), 705);
        x.heard(1, 1);
        DUE.is("sure", x.singerOf(0, 4), 1000);
        DUE.is("2 of 6 left", x.singerOf(1, 4), 333);
        x.heard(2, 1);
        DUE.is("not he", x.singerOf(2, 4), 0);
        x.isTrue(4);
        x.heard(1, 1);
        x.hear(1);
        DUE.is("none POSSIBLE", x.worlds(1), 0);
        DUE.is("then 0", x.singerOf(0, 4), 0);
        DUE.is("not refused", x.status(15), 0);
    }

    private static void ask() {
        OnlyMovesHisLips x = new OnlyMovesHisLips();
        int[] first = {1, 1, 0, 0};
        int[] fewest = {1, 1, 0, 0};
        int[] greatest = {3, 8, 1, 50};
        for (int what = 0; what < 4; what++) {
            DUE.is("the greatest of " + what, x.ask(what, greatest[what]), first[what]);
            DUE.is("status", x.status(1 + what), greatest[what]);
            DUE.is("beyond " + what, x.ask(what, greatest[what] + 1), -6);
            DUE.is("below " + what, x.ask(what, fewest[what] - 1), -6);
            DUE.is("the fewest of " + what, x.ask(what, fewest[what]), greatest[what]);
            DUE.is("status", x.status(1 + what), fewest[what]);
        }
        DUE.is("another what", x.ask(4, 1), -6);
        DUE.is("another what below", x.ask(-1, 1), -6);
        DUE.is("status(16)", x.status(16), 10);
    }

    private static void askForMostForgets() {
        OnlyMovesHisLips x = Due.choir(0, 0, 0);
        for (int most : new int[] {2, 2, 1}) {
            x.isTrue(2);
            x.hear(1);
            x.ask(0, most);
            DUE.is("MOST " + most + ": none KNOWN", x.known(-1), 0);
            DUE.is("MOST " + most + ": the first is TRUE", x.status(6), 1);
            DUE.is("MOST " + most + ": all POSSIBLE", x.worlds(1), x.worlds(0));
        }
        x.isTrue(2);
        x.hear(1);
        x.ask(0, 4);
        DUE.is("refused: still KNOWN", x.known(-1), 1);
        DUE.is("refused: still TRUE", x.status(6), 2);
    }

    private static void askForTheLawForgetsNothing() {
        OnlyMovesHisLips x = Due.choir(0, 0, 0);
        x.isTrue(2);
        x.hear(1);
        x.ask(1, 2);
        x.ask(2, 1);
        x.ask(3, 10);
        DUE.is("KNOWN", x.known(-1), 1);
        DUE.is("TRUE", x.status(6), 2);
        DUE.is("POSSIBLE", x.worlds(1), 2);
    }
}
