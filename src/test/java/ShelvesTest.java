/** Promises 1 to 8: a new object, SHELVES, ROWS, and what a SINGER on a SHELF says. */
public final class ShelvesTest {
    private static final Due DUE = new Due("ShelvesTest");

    public static void main(String[] args) {
        aNewObject();
        row();
        set();
        setKeepsTheLowestBits();
        copy();
        copyOverItself();
        element();
        show();
        holds();
        says();
        saysIsRefused();
        DUE.end();
    }

    private static void aNewObject() {
        OnlyMovesHisLips x = new OnlyMovesHisLips();
        DUE.is("NONE", OnlyMovesHisLips.NONE, -1);
        int[] first = {0, 1, 1, 0, 0, 0, 0, 1, 0, -1, -1, 0, 0, 0, 0, 0, 0, 0, -1};
        for (int what = 0; what < first.length; what++) {
            DUE.is("new: status(" + what + ")", x.status(what), first[what]);
        }
        for (int s = 0; s < 8; s++) {
            DUE.is("new: holds(" + s + ")", x.holds(s), -1);
        }
        DUE.is("new: fault()", x.fault(), -1);
        DUE.is("new: trace(0)", x.trace(0), -1);
        DUE.is("new: worlds(0)", x.worlds(0), 0);
        DUE.is("new: known(-1)", x.known(-1), 0);
        DUE.is("new: restore()", x.restore(), -6);
    }

    private static void row() {
        OnlyMovesHisLips x = new OnlyMovesHisLips();
        DUE.is("row(0, 0, 0)", x.row(0, 0, 0), 1);
        DUE.is("row(7, 3, 160)", x.row(7, 3, 160), 1);
        DUE.is("holds(0)", x.holds(0), 100);
        DUE.is("holds(7)", x.holds(7), 103);
        DUE.is("element(7, 159)", x.element(7, 159), 0);
        DUE.is("row(8, 9, -1)", x.row(8, 9, -1), -1);
        DUE.is("row(-1, 0, 1)", x.row(-1, 0, 1), -1);
        DUE.is("row(7, 9, -1)", x.row(7, 9, -1), -4);
        DUE.is("row(7, 4, 161)", x.row(7, 4, 161), -6);
        DUE.is("row(7, -1, 1)", x.row(7, -1, 1), -6);
        DUE.is("row(7, 2, 161)", x.row(7, 2, 161), -7);
        DUE.is("row(7, 2, MAX)", x.row(7, 2, Integer.MAX_VALUE), -7);
        DUE.is("after refusals: holds(7)", x.holds(7), 103);
        DUE.is("set(7, 159, 5)", x.set(7, 159, 5), 1);
        DUE.is("row(7, 3, 160) again", x.row(7, 3, 160), 1);
        DUE.is("a new one has zeros", x.element(7, 159), 0);
        x.set(7, 3, 5);
        x.row(7, 3, 2);
        DUE.is("a shorter one: set(7, 3, 5)", x.set(7, 3, 5), -5);
        x.row(7, 3, 5);
        DUE.is("a longer one has zeros", x.element(7, 3), 0);
        int[] refused = {2, 0, 0, 1, 1, 2, 2};
        for (int i = 0; i < 7; i++) {
            DUE.is("status(" + (11 + i) + ")", x.status(11 + i), refused[i]);
        }
    }

    private static void set() {
        OnlyMovesHisLips x = Due.choir(0);
        x.row(0, 2, 2);
        x.show(1, 0);
        DUE.is("set(0, 0, 7)", x.set(0, 0, 7), 1);
        DUE.is("set(0, 1, -7)", x.set(0, 1, -7), 1);
        DUE.is("element(0, 0)", x.element(0, 0), 7);
        DUE.is("element(0, 1)", x.element(0, 1), -7);
        DUE.is("set(8, 0, 1)", x.set(8, 0, 1), -1);
        DUE.is("set(-1, 0, 1)", x.set(-1, 0, 1), -1);
        DUE.is("set(1, 9, 1)", x.set(1, 9, 1), -2);
        DUE.is("set(2, 9, 1)", x.set(2, 9, 1), -3);
        DUE.is("set(0, 2, 1)", x.set(0, 2, 1), -5);
        DUE.is("set(0, -1, 1)", x.set(0, -1, 1), -5);
        DUE.is("nothing changed", x.element(0, 0), 7);
    }

    private static void setKeepsTheLowestBits() {
        OnlyMovesHisLips x = new OnlyMovesHisLips();
        long[] put = {127, 128, 255, 256, 32767, 32768, 65535, 2147483648L, 4294967295L, Long.MIN_VALUE, Long.MAX_VALUE};
        long[][] kept = {
            {127, -128, -1, 0, -1, 0, -1, 0, -1, 0, -1},
            {127, 128, 255, 256, 32767, -32768, -1, 0, -1, 0, -1},
            {127, 128, 255, 256, 32767, 32768, 65535, -2147483648L, -1, 0, -1},
            put
        };
        for (int sort = 0; sort < 4; sort++) {
            x.row(sort, sort, 1);
            for (int i = 0; i < put.length; i++) {
                x.set(sort, 0, put[i]);
                DUE.is("sort " + sort + " of " + put[i], x.element(sort, 0), kept[sort][i]);
            }
        }
    }

    private static void copy() {
        OnlyMovesHisLips x = Due.choir(0);
        Due.row(x, 0, 1, 2, 3, 4);
        Due.row(x, 1, 9, 9, 9);
        x.row(2, 3, 4);
        x.show(3, 0);
        DUE.is("copy(0, 1, 2, 0, 2)", x.copy(0, 1, 2, 0, 2), 1);
        DUE.is("first", x.element(1, 0), 3);
        DUE.is("second", x.element(1, 1), 4);
        DUE.is("third", x.element(1, 2), 9);
        DUE.is("all of it", x.copy(0, 0, 0, 0, 4), 1);
        DUE.is("up to the ends", x.copy(0, 1, 1, 0, 3), 1);
        DUE.is("the last", x.element(1, 2), 4);
        DUE.is("back", x.set(1, 2, 9), 1);
        DUE.is("none, at the ends", x.copy(0, 1, 4, 3, 0), 1);
        DUE.is("-1 of p", x.copy(8, 3, 0, 0, -1), -1);
        DUE.is("-1 of q", x.copy(3, -1, 0, 0, -1), -1);
        DUE.is("-2, a SINGER in p", x.copy(3, 4, 0, 0, -1), -2);
        DUE.is("-2, a SINGER in q", x.copy(4, 3, 0, 0, -1), -2);
        DUE.is("-2, two SORTS", x.copy(0, 2, 0, 0, -1), -2);
        DUE.is("-3, p", x.copy(4, 2, 0, 0, -1), -3);
        DUE.is("-3, q", x.copy(2, 4, 0, 0, -1), -3);
        DUE.is("-3, both", x.copy(5, 4, 0, 0, -1), -3);
        DUE.is("-4", x.copy(0, 1, -1, 0, -1), -4);
        DUE.is("-5, i", x.copy(0, 1, -1, 0, 1), -5);
        DUE.is("-5, j", x.copy(0, 1, 0, -1, 1), -5);
        DUE.is("-5, the end in p", x.copy(0, 1, 3, 0, 2), -5);
        DUE.is("-5, the end in q", x.copy(0, 1, 0, 2, 2), -5);
        DUE.is("-5, none behind the end", x.copy(0, 1, 5, 0, 0), -5);
        DUE.is("-5, far away", x.copy(0, 1, Integer.MAX_VALUE, 0, 1), -5);
        DUE.is("-5, many", x.copy(0, 1, 1, 1, Integer.MAX_VALUE), -5);
        DUE.is("unchanged", x.element(1, 1), 3);
    }

    private static void copyOverItself() {
        OnlyMovesHisLips x = new OnlyMovesHisLips();
        Due.row(x, 0, 1, 2, 3, 4, 5);
        x.copy(0, 0, 0, 1, 4);
        long[] up = {1, 1, 2, 3, 4};
        for (int i = 0; i < 5; i++) {
            DUE.is("upwards, element " + i, x.element(0, i), up[i]);
        }
        Due.row(x, 0, 1, 2, 3, 4, 5);
        x.copy(0, 0, 1, 0, 4);
        long[] down = {2, 3, 4, 5, 5};
        for (int i = 0; i < 5; i++) {
            DUE.is("downwards, element " + i, x.element(0, i), down[i]);
        }
    }

    private static void element() {
        OnlyMovesHisLips x = Due.choir(0);
        Due.row(x, 0, 8);
        x.show(1, 0);
        DUE.is("there", x.element(0, 0), 8);
        DUE.is("beyond", x.element(0, 1), 0);
        DUE.is("below", x.element(0, -1), 0);
        DUE.is("of a SINGER", x.element(1, 0), 0);
        DUE.is("of NOTHING", x.element(2, 0), 0);
        DUE.is("no SHELF", x.element(8, 0), 0);
        DUE.is("no SHELF below", x.element(-1, 0), 0);
        for (int what = 11; what <= 17; what++) {
            DUE.is("element refuses nothing: status(" + what + ")", x.status(what), 0);
        }
    }

    private static void show() {
        OnlyMovesHisLips x = Due.choir(0, 0);
        DUE.is("show(0, 1)", x.show(0, 1), 1);
        DUE.is("show(7, 0)", x.show(7, 0), 1);
        DUE.is("show(7, -1)", x.show(7, -1), 0);
        DUE.is("holds(0)", x.holds(0), 1);
        DUE.is("holds(7)", x.holds(7), -1);
        DUE.is("no SINGER", x.show(0, 2), -1);
        DUE.is("no SINGER below", x.show(0, -2), -1);
        DUE.is("no SHELF", x.show(8, 0), -1);
        DUE.is("no SHELF for NOTHING", x.show(-1, -1), -1);
        DUE.is("nothing changed", x.holds(0), 1);
        x.row(0, 1, 3);
        DUE.is("over a ROW", x.show(0, 0), 1);
        DUE.is("the ROW is gone", x.set(0, 0, 1), -2);
        DUE.is("status(11)", x.status(11), 4);
    }

    private static void holds() {
        OnlyMovesHisLips x = Due.choir(0, 0, 0);
        for (int sort = 0; sort < 4; sort++) {
            x.row(sort, sort, 0);
            DUE.is("a ROW", x.holds(sort), 100 + sort);
        }
        x.show(4, 2);
        DUE.is("a SINGER", x.holds(4), 2);
        DUE.is("NOTHING", x.holds(5), -1);
        DUE.is("no SHELF", x.holds(8), -1);
        DUE.is("no SHELF below", x.holds(-1), -1);
        DUE.is("not refused", x.status(11), 0);
    }

    private static void says() {
        OnlyMovesHisLips x = new OnlyMovesHisLips();
        for (int kind = 0; kind < 7; kind++) {
            x.singer(kind, 9 - kind, 1);
            x.show(kind, kind);
        }
        x.swap(1, 6);
        // the row: 0 6 2 3 4 5 1
        int[] places = {0, 6, 2, 3, 4, 5, 1};
        for (int s = 0; s < 7; s++) {
            DUE.is("says(" + s + ", SINGER)", x.says(s, 0), places[s]);
        }
        DUE.is("a LEANER", x.says(1, 1), 5);
        DUE.is("a PROUD one for a LEANER", x.says(3, 1), 2);
        DUE.is("a PROUD one", x.says(3, 3), 2);
        DUE.is("a HIDER", x.says(2, 2), 9);
        DUE.is("a SHADOW for a HIDER", x.says(5, 2), 6);
        DUE.is("a SHADOW", x.says(5, 5), 6);
        DUE.is("a MUTE", x.says(4, 4), 5);
        DUE.is("a DEAF one for a MUTE", x.says(6, 4), 3);
        DUE.is("a DEAF one", x.says(6, 6), 3);
        x.swap(1, 0);
        DUE.is("a LEANER first in the row", x.says(1, 1), -1);
        x.swap(1, 3);
        DUE.is("a PROUD one first in the row", x.says(3, 3), -1);
        DUE.is("a PROUD one first in the row, for a LEANER", x.says(3, 1), -1);
        for (int what = 11; what <= 17; what++) {
            DUE.is("NONE isn't refused: status(" + what + ")", x.status(what), 0);
        }
    }

    private static void saysIsRefused() {
        OnlyMovesHisLips x = new OnlyMovesHisLips();
        int[] above = {-1, 0, 0, 1, 0, 2, 4};
        int refused = 0;
        for (int kind = 0; kind < 7; kind++) {
            x.singer(kind, 0, 1);
            x.show(0, kind);
            for (int wanted = 0; wanted < 7; wanted++) {
                boolean is = wanted == kind || wanted == 0 || wanted == above[kind];
                if (!is) {
                    refused++;
                    DUE.is("KIND " + kind + " for " + wanted, x.says(0, wanted), -2);
                }
            }
        }
        DUE.is("status(12)", x.status(12), refused);
        x.row(1, 0, 1);
        DUE.is("no SHELF", x.says(8, 0), -1);
        DUE.is("no KIND, of a ROW", x.says(1, 7), -1);
        DUE.is("no KIND below, of NOTHING", x.says(2, -1), -1);
        DUE.is("a ROW", x.says(1, 0), -2);
        DUE.is("NOTHING", x.says(2, 0), -3);
    }
}
