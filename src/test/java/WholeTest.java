/** Promises 37 to 41: ACTS and THE TRACE, THE IMAGE, status; and that no refusal changes anything. */
public final class WholeTest {
    private static final Due DUE = new Due("WholeTest");
    private static final int[] AS = {3, 2, 1, 2, 1, 1, 1};

    public static void main(String[] args) {
        acts();
        actsWrap();
        noActs();
        image();
        imageOfShelves();
        imageLeavesOut();
        status();
        refusalsChangeNothing();
        DUE.end();
    }

    private static OnlyMovesHisLips ofAllKinds() {
        OnlyMovesHisLips x = new OnlyMovesHisLips();
        for (int kind = 0; kind < 7; kind++) {
            x.singer(kind, AS[kind], 1);
        }
        return x;
    }

    private static void act(OnlyMovesHisLips x, int singer, int act, int answer, int... bodies) {
        String call = "act(" + singer + ", " + act + ", 5)";
        DUE.is(call, x.act(singer, act, 5), answer);
        DUE.is("status(8) of " + call, x.status(8), bodies.length);
        for (int i = 0; i < bodies.length; i++) {
            DUE.is("trace(" + i + ") of " + call, x.trace(i), bodies[i]);
        }
        DUE.is("no more of " + call, x.trace(bodies.length), -1);
        DUE.is("none below of " + call, x.trace(-1), -1);
    }

    private static void acts() {
        OnlyMovesHisLips x = ofAllKinds();
        act(x, 0, 0, 5, 10);
        act(x, 0, 1, 10, 11, 10);
        act(x, 0, 2, 10 ^ 2, 12, 11, 10, 10);
        act(x, 1, 0, 8, 20, 10);
        act(x, 1, 1, 16, 11, 20, 10);
        act(x, 1, 2, 16 ^ 6, 12, 11, 20, 10, 20, 10);
        act(x, 2, 0, 7, 10);
        act(x, 2, 1, 42, 30, 11, 10);
        act(x, 2, 2, 42 ^ 6, 12, 30, 11, 10, 10);
        act(x, 3, 0, 10, 20, 10);
        act(x, 3, 1, 22, 40, 11, 20, 10);
        act(x, 3, 2, 22 ^ 8, 12, 40, 11, 20, 10, 20, 10);
        act(x, 4, 0, 5, 51, 10);
        act(x, 4, 1, 10, 11, 51, 10);
        act(x, 4, 2, -(10 ^ 4), 50, 12, 11, 51, 10, 51, 10);
        act(x, 5, 0, 10, 10);
        act(x, 5, 1, 60, 30, 11, 10);
        act(x, 5, 2, 60 ^ 9 ^ 5, 60, 12, 30, 11, 10, 10);
        act(x, 6, 0, 10, 70, 51, 10);
        act(x, 6, 1, 16, 71, 11, 70, 51, 10);
        act(x, 6, 2, -(16 ^ 8), 50, 12, 71, 11, 70, 51, 10, 70, 51, 10);
        x.swap(0, 6);
        act(x, 6, 1, 16, 71, 11, 70, 51, 10);
    }

    private static void actsWrap() {
        OnlyMovesHisLips x = ofAllKinds();
        DUE.is("sings", x.act(1, 0, Integer.MAX_VALUE), Integer.MIN_VALUE + 2);
        DUE.is("hears", x.act(0, 1, 1 << 30), Integer.MIN_VALUE);
        DUE.is("hears of a HIDER", x.act(2, 1, 1 << 30), (1 << 31) + 12);
        DUE.is("leans of a SINGER", x.act(0, 2, Integer.MIN_VALUE), 0 ^ Integer.MAX_VALUE - 2);
        // of MUTE with 2: hears 4, sings 1: - (4 ^ 1)
        DUE.is("leans of a MUTE", x.act(4, 2, 2), -5);
    }

    private static void noActs() {
        OnlyMovesHisLips x = ofAllKinds();
        int[][] none = {{7, 0}, {-1, 0}, {0, 3}, {0, -1}, {8, 5}};
        for (int[] no : none) {
            x.act(6, 2, 1);
            DUE.is("ran", x.status(8), 10);
            DUE.is("no act", x.act(no[0], no[1], 9), 0);
            DUE.is("none ran", x.status(8), 0);
            DUE.is("no TRACE", x.trace(0), -1);
        }
        for (int what = 11; what <= 17; what++) {
            DUE.is("nothing refused: status(" + what + ")", x.status(what), 0);
        }
        x.act(0, 1, 1);
        x.next();
        x.singer(0, 0, 1);
        DUE.is("THE TRACE stays", x.trace(1), 10);
        DUE.is("it ends", x.trace(20), -1);
        DUE.is("far beyond", x.trace(Integer.MAX_VALUE), -1);
        DUE.is("far below", x.trace(Integer.MIN_VALUE), -1);
    }

    private static void image() {
        OnlyMovesHisLips x = new OnlyMovesHisLips();
        DUE.is("none yet", x.restore(), -6);
        DUE.is("of nobody", x.image(), 0);
        Due.loft(x, "singer 3 2 3;singer 0 1 1;singer 1 0 2;most 2;least 2;near 1;ear 7;swap 0 2");
        x.isTrue(6);
        x.hear(3);
        x.seed(99);
        DUE.is("of three", x.image(), 3);
        Due.loft(x, "singer 0 0 1;most 3;least 1;near 0;ear 8;swap 0 1");
        x.isTrue(4);
        x.hear(1);
        x.hear(2);
        x.evenings(2);
        DUE.is("restore()", x.restore(), 3);
        int[] stands = {3, 2, 2, 1, 7, 1, 6, 99};
        for (int what = 0; what < stands.length; what++) {
            DUE.is("status(" + what + ")", x.status(what), stands[what]);
        }
        int[][] singers = {{3, 2, 3, 2}, {0, 1, 1, 1}, {1, 0, 2, 0}};
        for (int i = 0; i < 3; i++) {
            for (int what = 0; what < 4; what++) {
                DUE.is("singerOf(" + i + ", " + what + ")", x.singerOf(i, what), singers[i][what]);
            }
        }
        // the row: 2 1 0; with 1 and 2 wrong 0 and 1 sound wrong
        DUE.is("KNOWN", x.known(0), 7);
        DUE.is("WORLDS", x.worlds(0), 6);
        DUE.is("POSSIBLE", x.worlds(1), 3);
        DUE.is("LEANER first in the row", x.sounds(6, 4), 1);
        DUE.is("PROUD behind one who is right", x.sounds(3, 1), 0);
        x.forget();
        DUE.is("again", x.restore(), 3);
        DUE.is("KNOWN again", x.known(-1), 1);
    }

    private static void imageOfShelves() {
        OnlyMovesHisLips x = Due.choir(0, 0);
        x.image();
        x.singer(0, 0, 1);
        x.swap(0, 1);
        x.show(0, 0);
        x.show(1, 1);
        x.show(2, 2);
        Due.row(x, 3, 5);
        x.restore();
        int[] hold = {0, 1, -1, 102, -1};
        for (int s = 0; s < hold.length; s++) {
            DUE.is("holds(" + s + ")", x.holds(s), hold[s]);
        }
        DUE.is("says", x.says(0, 0), 0);
        DUE.is("NOTHING", x.says(2, 0), -3);
        DUE.is("ROWS stay", x.element(3, 0), 5);
        x.singer(0, 0, 1);
        for (int s = 0; s < 8; s++) {
            x.show(s, 2);
        }
        DUE.is("restore()", x.restore(), 2);
        for (int s = 0; s < 8; s++) {
            DUE.is("then holds(" + s + ")", x.holds(s), -1);
        }
    }

    private static void imageLeavesOut() {
        OnlyMovesHisLips x = Due.choir(0, 1);
        x.image();
        x.act(1, 0, 1);
        Due.loft(x, "most 9");
        x.world(9);
        x.restore();
        DUE.is("THE TRACE", x.trace(0), 20);
        DUE.is("bodies that ran", x.status(8), 2);
        DUE.is("the FAULT", x.fault(), 5);
        DUE.is("REFUSALS -5", x.status(15), 1);
        DUE.is("REFUSALS -6", x.status(16), 1);
    }

    private static void status() {
        OnlyMovesHisLips x = new OnlyMovesHisLips();
        for (int what : new int[] {-1, 9, 10, 18, Integer.MAX_VALUE, Integer.MIN_VALUE}) {
            DUE.is("status(" + what + ")", x.status(what), -1);
        }
        x.holds(9);
        DUE.is("nothing refused", x.status(15), 0);
        x.show(9, 0);
        x.show(9, 0);
        x.judge(9, 0);
        DUE.is("-1", x.status(11), 3);
        x.singer(0, 0, 1);
        x.show(0, 0);
        x.set(0, 0, 0);
        DUE.is("-2", x.status(12), 1);
        x.says(1, 0);
        DUE.is("-3", x.status(13), 1);
        x.row(0, 0, -1);
        DUE.is("-4", x.status(14), 1);
        x.world(5);
        DUE.is("-5", x.status(15), 1);
        x.isTrue(5);
        DUE.is("-6", x.status(16), 1);
        x.row(0, 0, 161);
        DUE.is("-7", x.status(17), 1);
    }

    private static void refusalsChangeNothing() {
        OnlyMovesHisLips x = Due.choir(0, 1, 2);
        x.isTrue(2);
        x.hear(3);
        Due.row(x, 0, 1, 2, 3);
        x.show(1, 1);
        x.act(1, 0, 1);
        refuseAll(x);
        int[] stands = {3, 1, 1, 0, 0, 1, 2, 1, 2};
        for (int what = 0; what < stands.length; what++) {
            DUE.is("status(" + what + ")", x.status(what), stands[what]);
        }
        DUE.is("a SHELF with a ROW", x.holds(0), 102);
        DUE.is("a SHELF with a SINGER", x.holds(1), 1);
        DUE.is("elements", x.element(0, 2), 3);
        DUE.is("KNOWN", x.known(0), 6);
        DUE.is("PLACES", x.singerOf(1, 3), 1);
    }

    private static void refuseAll(OnlyMovesHisLips x) {
        x.row(0, 0, 161);
        x.set(0, 3, 1);
        x.copy(0, 0, 0, 1, 3);
        x.show(0, 3);
        x.show(1, 3);
        x.says(0, 0);
        x.singer(0, 0, 0);
        x.singerOf(3, 0);
        x.ask(0, 4);
        x.loft(0);
        x.heard(0, 1);
        x.parts(0, 0);
        x.by(3);
        x.ahead(0, 4, 0);
        x.judge(0, 4);
        x.behind(0, 3);
        x.byEar(0, 3);
        x.swap(1, 1);
        x.isTrue(3);
        x.hear(8);
        x.evenings(0);
        x.restore();
    }
}
