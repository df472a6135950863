/** Each sentence of the document that names a bound of SHELVES and ROWS (promises 1 to 8), by a test of its own. */
public final class BoundsOfShelvesTest {
    private static final Due DUE = new Due("BoundsOfShelvesTest");

    public static void main(String[] args) {
        aNewObject();
        shelves0To7();
        sorts0To3();
        elements0To160();
        elementsAre0AtFirst();
        aNewRowInPlaceOfAnother();
        aRowInPlaceOfASinger();
        lowestBitsOfBytes();
        lowestBitsOfShorts();
        lowestBitsOfInts();
        longsKeepAll();
        setAtTheEnds();
        setOfAnEmptyRow();
        elementAtTheEnds();
        copyOfAll();
        copyOfNone();
        copyUpToTheEnds();
        copyUpwardsOverItself();
        copyDownwardsOverItself();
        copyInPlace();
        copyOfEachSort();
        showAtTheEnds();
        showInPlaceOf();
        oneSingerOnAllShelves();
        holdsAll();
        saysOfTheFirstInTheRow();
        saysBehindTheFirst();
        saysOfPlacesAtTheEnds();
        saysByAAtTheEnds();
        saysOfAShadowAtTheEnd();
        saysByEachKind();
        DUE.end();
    }

    private static void aNewObject() {
        DUE.sentence("Promise 1: No SINGERS; MOST 1, LEAST 1; and what the Terms have at first");
        OnlyMovesHisLips x = new OnlyMovesHisLips();
        int[] status = {0, 1, 1, 0, 0, 0, 0, 1, 0};
        for (int what = 0; what < status.length; what++) {
            DUE.is("status(" + what + ")", x.status(what), status[what]);
        }
        for (int what = 11; what <= 17; what++) {
            DUE.is("status(" + what + ")", x.status(what), 0);
        }
        for (int s = 0; s < 8; s++) {
            DUE.is("holds(" + s + ")", x.holds(s), -1);
        }
        DUE.is("MOST was", x.ask(0, 3), 1);
        DUE.is("LEAST was", x.ask(1, 8), 1);
        DUE.is("NEIGHBOURS were", x.ask(2, 1), 0);
        DUE.is("EAR was", x.ask(3, 50), 0);
        DUE.is("SEED was", x.seed(9), 1);
        DUE.is("the FAULT", x.fault(), -1);
        DUE.is("THE TRACE", x.trace(0), -1);
        DUE.is("KNOWN", x.known(-1), 0);
        DUE.is("THE IMAGE", x.restore(), -6);
    }

    private static void shelves0To7() {
        DUE.sentence("SHELVES 0 to 7");
        OnlyMovesHisLips x = Due.choir(0);
        for (int s = 0; s <= 7; s++) {
            DUE.is("row(" + s + ", 0, 1)", x.row(s, 0, 1), 1);
            DUE.is("set(" + s + ", 0, s)", x.set(s, 0, s + 1), 1);
        }
        for (int s = 0; s <= 7; s++) {
            DUE.is("element(" + s + ", 0)", x.element(s, 0), s + 1);
        }
        DUE.is("row(8, 0, 1)", x.row(8, 0, 1), -1);
        DUE.is("row(-1, 0, 1)", x.row(-1, 0, 1), -1);
    }

    private static void sorts0To3() {
        DUE.sentence("a SORT (0 bytes, 1 shorts, 2 ints, 3 longs)");
        OnlyMovesHisLips x = new OnlyMovesHisLips();
        for (int sort = 0; sort <= 3; sort++) {
            DUE.is("row(0, " + sort + ", 1)", x.row(0, sort, 1), 1);
            DUE.is("holds(0)", x.holds(0), 100 + sort);
        }
        DUE.is("row(0, 4, 1)", x.row(0, 4, 1), -6);
        DUE.is("row(0, -1, 1)", x.row(0, -1, 1), -6);
        DUE.is("holds(0) still", x.holds(0), 103);
    }

    private static void elements0To160() {
        DUE.sentence("0 to 160 elements");
        OnlyMovesHisLips x = new OnlyMovesHisLips();
        DUE.is("row(0, 2, 160)", x.row(0, 2, 160), 1);
        DUE.is("the last", x.set(0, 159, 7), 1);
        DUE.is("beyond it", x.set(0, 160, 7), -5);
        DUE.is("row(1, 2, 161)", x.row(1, 2, 161), -7);
        DUE.is("SHELF 1", x.holds(1), -1);
        DUE.is("row(1, 2, 0)", x.row(1, 2, 0), 1);
        DUE.is("SHELF 1 then", x.holds(1), 102);
        DUE.is("row(2, 2, -1)", x.row(2, 2, -1), -4);
        DUE.is("SHELF 2", x.holds(2), -1);
        DUE.is("row(2, 2, 1)", x.row(2, 2, 1), 1);
    }

    private static void elementsAre0AtFirst() {
        DUE.sentence("elements, 0 at first");
        OnlyMovesHisLips x = new OnlyMovesHisLips();
        for (int sort = 0; sort <= 3; sort++) {
            x.row(sort, sort, 160);
            DUE.is("the first", x.element(sort, 0), 0);
            DUE.is("the last", x.element(sort, 159), 0);
        }
    }

    private static void aNewRowInPlaceOfAnother() {
        DUE.sentence("SHELF s holds a new ROW");
        OnlyMovesHisLips x = new OnlyMovesHisLips();
        Due.row(x, 0, 1, 2, 3);
        DUE.is("as long", x.row(0, 2, 3), 1);
        for (int i = 0; i < 3; i++) {
            DUE.is("element " + i, x.element(0, i), 0);
        }
        Due.row(x, 0, 1, 2, 3);
        x.row(0, 2, 1);
        DUE.is("a shorter one has no second", x.set(0, 1, 5), -5);
        DUE.is("element 1", x.element(0, 1), 0);
        x.row(0, 2, 3);
        DUE.is("what it had isn't in a longer one", x.element(0, 2), 0);
        Due.row(x, 0, 1, 2, 3);
        x.row(0, 3, 3);
        DUE.is("nor in one of another SORT", x.element(0, 1), 0);
        Due.row(x, 1, 4);
        x.row(0, 2, 1);
        DUE.is("another SHELF's stays", x.element(1, 0), 4);
    }

    private static void aRowInPlaceOfASinger() {
        DUE.sentence("SHELVES hold NOTHING (at first), a ROW, or a SINGER");
        OnlyMovesHisLips x = Due.choir(0);
        x.show(0, 0);
        DUE.is("a ROW over him", x.row(0, 0, 0), 1);
        DUE.is("holds(0)", x.holds(0), 100);
        DUE.is("he says nothing", x.says(0, 0), -2);
        DUE.is("he over the ROW", x.show(0, 0), 1);
        DUE.is("holds(0) then", x.holds(0), 0);
        DUE.is("it has no elements", x.copy(0, 0, 0, 0, 0), -2);
        DUE.is("NOTHING over him", x.show(0, -1), 0);
        DUE.is("holds(0) at last", x.holds(0), -1);
    }

    private static void keeps(int sort, long... putAndKept) {
        OnlyMovesHisLips x = new OnlyMovesHisLips();
        x.row(3, sort, 1);
        for (int i = 0; i < putAndKept.length; i += 2) {
            DUE.is("set", x.set(3, 0, putAndKept[i]), 1);
            DUE.is("of " + putAndKept[i] + " in SORT " + sort, x.element(3, 0), putAndKept[i + 1]);
        }
    }

    private static void lowestBitsOfBytes() {
        DUE.sentence("what is put in keeps its lowest bits: bytes");
        keeps(0, 127, 127, 128, -128, 255, -1, 256, 0, 257, 1, -128, -128, -129, 127, -256, 0, -257, -1,
            Long.MAX_VALUE, -1, Long.MIN_VALUE, 0, (1L << 32) + 5, 5);
    }

    private static void lowestBitsOfShorts() {
        DUE.sentence("what is put in keeps its lowest bits: shorts");
        keeps(1, 128, 128, 255, 255, 32767, 32767, 32768, -32768, 65535, -1, 65536, 0, -32768, -32768, -32769, 32767,
            Long.MAX_VALUE, -1, Long.MIN_VALUE, 0, (1L << 32) + 5, 5);
    }

    private static void lowestBitsOfInts() {
        DUE.sentence("what is put in keeps its lowest bits: ints");
        keeps(2, 32768, 32768, 65536, 65536, 2147483647L, 2147483647L, 2147483648L, -2147483648L, 4294967295L, -1,
            4294967296L, 0, -2147483648L, -2147483648L, -2147483649L, 2147483647L, Long.MAX_VALUE, -1, Long.MIN_VALUE, 0);
    }

    private static void longsKeepAll() {
        DUE.sentence("what is put in keeps its lowest bits: longs");
        keeps(3, 2147483648L, 2147483648L, 4294967296L, 4294967296L, Long.MAX_VALUE, Long.MAX_VALUE,
            Long.MIN_VALUE, Long.MIN_VALUE, -1, -1);
    }

    private static void setAtTheEnds() {
        DUE.sentence("set: -5");
        OnlyMovesHisLips x = new OnlyMovesHisLips();
        x.row(0, 2, 3);
        DUE.is("set(0, -1, 9)", x.set(0, -1, 9), -5);
        DUE.is("set(0, 0, 7)", x.set(0, 0, 7), 1);
        DUE.is("set(0, 2, 8)", x.set(0, 2, 8), 1);
        DUE.is("set(0, 3, 9)", x.set(0, 3, 9), -5);
        long[] has = {7, 0, 8};
        for (int i = 0; i < 3; i++) {
            DUE.is("element(0, " + i + ")", x.element(0, i), has[i]);
        }
    }

    private static void setOfAnEmptyRow() {
        DUE.sentence("set: -5, of a ROW of no elements");
        OnlyMovesHisLips x = new OnlyMovesHisLips();
        x.row(0, 2, 0);
        DUE.is("set(0, 0, 9)", x.set(0, 0, 9), -5);
        DUE.is("element(0, 0)", x.element(0, 0), 0);
    }

    private static void elementAtTheEnds() {
        DUE.sentence("Element i of the ROW; 0 if there is none");
        OnlyMovesHisLips x = new OnlyMovesHisLips();
        Due.row(x, 0, 5, 6);
        DUE.is("element(0, -1)", x.element(0, -1), 0);
        DUE.is("element(0, 0)", x.element(0, 0), 5);
        DUE.is("element(0, 1)", x.element(0, 1), 6);
        DUE.is("element(0, 2)", x.element(0, 2), 0);
        DUE.is("element(0, MAX)", x.element(0, Integer.MAX_VALUE), 0);
        DUE.is("element(8, 0)", x.element(8, 0), 0);
    }

    private static void elements(String of, OnlyMovesHisLips x, int s, long... has) {
        for (int i = 0; i < has.length; i++) {
            DUE.is(of + ": element(" + s + ", " + i + ")", x.element(s, i), has[i]);
        }
    }

    private static OnlyMovesHisLips twoRows() {
        OnlyMovesHisLips x = new OnlyMovesHisLips();
        Due.row(x, 0, 1, 2, 3, 4);
        Due.row(x, 1, 7, 8, 9);
        return x;
    }

    private static void copyOfAll() {
        DUE.sentence("copy: all elements");
        OnlyMovesHisLips x = twoRows();
        DUE.is("all of the shorter one", x.copy(1, 0, 0, 0, 3), 1);
        elements("all of the shorter one", x, 0, 7, 8, 9, 4);
        DUE.is("one more", x.copy(1, 0, 0, 0, 4), -5);
        elements("one more", x, 0, 7, 8, 9, 4);
        OnlyMovesHisLips full = new OnlyMovesHisLips();
        full.row(0, 3, 160);
        full.row(1, 3, 160);
        full.set(0, 0, 3);
        full.set(0, 159, 4);
        DUE.is("160", full.copy(0, 1, 0, 0, 160), 1);
        DUE.is("the first", full.element(1, 0), 3);
        DUE.is("the last", full.element(1, 159), 4);
        DUE.is("161", full.copy(0, 1, 0, 0, 161), -5);
    }

    private static void copyOfNone() {
        DUE.sentence("copy: no elements");
        OnlyMovesHisLips x = twoRows();
        x.row(2, 2, 0);
        DUE.is("at the start", x.copy(0, 1, 0, 0, 0), 1);
        DUE.is("at both ends", x.copy(0, 1, 4, 3, 0), 1);
        DUE.is("behind the end of p", x.copy(0, 1, 5, 3, 0), -5);
        DUE.is("behind the end of q", x.copy(0, 1, 4, 4, 0), -5);
        DUE.is("of an empty ROW", x.copy(2, 0, 0, 4, 0), 1);
        DUE.is("to an empty ROW", x.copy(0, 2, 4, 0, 0), 1);
        DUE.is("of an empty ROW to itself", x.copy(2, 2, 0, 0, 0), 1);
        DUE.is("behind an empty ROW", x.copy(2, 2, 1, 0, 0), -5);
        elements("p", x, 0, 1, 2, 3, 4);
        elements("q", x, 1, 7, 8, 9);
    }

    private static void copyUpToTheEnds() {
        DUE.sentence("copy: an end that isn't there");
        OnlyMovesHisLips x = twoRows();
        DUE.is("up to both ends", x.copy(0, 1, 2, 1, 2), 1);
        elements("up to both ends", x, 1, 7, 3, 4);
        DUE.is("one beyond in p", x.copy(0, 1, 3, 0, 2), -5);
        DUE.is("one beyond in q", x.copy(0, 1, 0, 2, 2), -5);
        elements("beyond", x, 1, 7, 3, 4);
        DUE.is("the last alone", x.copy(0, 1, 3, 2, 1), 1);
        DUE.is("the first alone", x.copy(0, 1, 0, 0, 1), 1);
        elements("the first and the last", x, 1, 1, 3, 4);
    }

    private static void copyUpwardsOverItself() {
        DUE.sentence("copy: (as they were ahead), upwards");
        OnlyMovesHisLips x = twoRows();
        DUE.is("by one", x.copy(0, 0, 0, 1, 3), 1);
        elements("by one", x, 0, 1, 1, 2, 3);
    }

    private static void copyDownwardsOverItself() {
        DUE.sentence("copy: (as they were ahead), downwards");
        OnlyMovesHisLips x = twoRows();
        DUE.is("by one", x.copy(0, 0, 1, 0, 3), 1);
        elements("by one", x, 0, 2, 3, 4, 4);
    }

    private static void copyInPlace() {
        DUE.sentence("copy: of a ROW to where it stands");
        OnlyMovesHisLips x = twoRows();
        DUE.is("all", x.copy(0, 0, 0, 0, 4), 1);
        elements("all", x, 0, 1, 2, 3, 4);
        DUE.is("one too many", x.copy(0, 0, 0, 0, 5), -5);
    }

    private static void copyOfEachSort() {
        DUE.sentence("copy: -2 also of two SORTS (when both hold something)");
        OnlyMovesHisLips x = new OnlyMovesHisLips();
        for (int sort = 0; sort <= 3; sort++) {
            x.row(sort, sort, 1);
            x.row(4 + sort, sort, 1);
            x.set(sort, 0, -1 - sort);
        }
        for (int p = 0; p <= 3; p++) {
            for (int q = 0; q <= 3; q++) {
                DUE.is("copy of SORT " + p + " to " + q, x.copy(p, 4 + q, 0, 0, 1), p == q ? 1 : -2);
            }
            DUE.is("element", x.element(4 + p, 0), -1 - p);
        }
    }

    private static void showAtTheEnds() {
        DUE.sentence("show: -1");
        OnlyMovesHisLips x = Due.choir(0, 0, 0);
        DUE.is("the first on the first", x.show(0, 0), 1);
        DUE.is("the last on the last", x.show(7, 2), 1);
        DUE.is("one more", x.show(7, 3), -1);
        DUE.is("one SHELF more", x.show(8, 2), -1);
        DUE.is("below NONE", x.show(7, -2), -1);
        DUE.is("holds(0)", x.holds(0), 0);
        DUE.is("holds(7)", x.holds(7), 2);
        DUE.is("NONE", x.show(7, -1), 0);
        DUE.is("holds(7) then", x.holds(7), -1);
        DUE.is("NONE over NOTHING", x.show(7, -1), 0);
        x.singer(0, 0, 1);
        DUE.is("he who has come", x.show(7, 3), 1);
    }

    private static void showInPlaceOf() {
        DUE.sentence("SHELF s holds a SINGER, or NOTHING (singer NONE): 1, 0");
        OnlyMovesHisLips x = Due.choir(0, 0);
        Due.row(x, 0, 5);
        DUE.is("NOTHING over a ROW", x.show(0, -1), 0);
        DUE.is("no element", x.element(0, 0), 0);
        DUE.is("no ROW", x.set(0, 0, 1), -3);
        Due.row(x, 0, 5);
        DUE.is("a SINGER over a ROW", x.show(0, 1), 1);
        DUE.is("no element of his", x.element(0, 0), 0);
        DUE.is("a SINGER over a SINGER", x.show(0, 0), 1);
        DUE.is("holds(0)", x.holds(0), 0);
    }

    private static void oneSingerOnAllShelves() {
        DUE.sentence("a SINGER on more SHELVES than one");
        OnlyMovesHisLips x = Due.choir(4);
        for (int s = 0; s < 8; s++) {
            DUE.is("show", x.show(s, 0), 1);
        }
        for (int s = 0; s < 8; s++) {
            DUE.is("holds", x.holds(s), 0);
            DUE.is("says", x.says(s, 4), 0);
        }
    }

    private static void holdsAll() {
        DUE.sentence("a SINGER's number; 100 and the SORT of a ROW");
        OnlyMovesHisLips x = Scenes.full();
        for (int i = 0; i < 8; i++) {
            x.show(i, i);
        }
        for (int i = 0; i < 8; i++) {
            DUE.is("holds(" + i + ")", x.holds(i), i);
        }
        x.row(7, 3, 160);
        x.row(0, 0, 0);
        DUE.is("a full ROW", x.holds(7), 103);
        DUE.is("an empty ROW", x.holds(0), 100);
    }

    private static OnlyMovesHisLips shown(int... kinds) {
        OnlyMovesHisLips x = Due.choir(kinds);
        for (int i = 0; i < kinds.length; i++) {
            x.show(i, i);
        }
        return x;
    }

    private static void saysOfTheFirstInTheRow() {
        DUE.sentence("LEANER, PROUD who stands just ahead (NONE)");
        OnlyMovesHisLips x = shown(1, 3, 1);
        DUE.is("a LEANER first", x.says(0, 1), -1);
        x.swap(0, 1);
        DUE.is("a PROUD one first", x.says(1, 3), -1);
        DUE.is("a PROUD one first, for a LEANER", x.says(1, 1), -1);
        DUE.is("the LEANER behind him", x.says(0, 1), 1);
        OnlyMovesHisLips alone = shown(3);
        DUE.is("alone", alone.says(0, 3), -1);
    }

    private static void saysBehindTheFirst() {
        DUE.sentence("LEANER, PROUD who stands just ahead");
        OnlyMovesHisLips x = shown(1, 3, 1, 3, 1, 3, 1, 3);
        for (int i = 1; i < 8; i++) {
            DUE.is("ahead of " + i, x.says(i, 1), i - 1);
        }
        x.swap(0, 7);
        DUE.is("ahead of the second, as PLACES are", x.says(1, 1), 7);
        DUE.is("ahead of the last", x.says(0, 1), 6);
        DUE.is("ahead of the first", x.says(7, 3), -1);
    }

    private static void saysOfPlacesAtTheEnds() {
        DUE.sentence("SINGER his PLACE");
        OnlyMovesHisLips x = shown(0, 1, 2, 3, 4, 5, 6, 3);
        for (int i = 0; i < 8; i++) {
            DUE.is("PLACE of " + i, x.says(i, 0), i);
        }
        x.swap(0, 7);
        DUE.is("PLACE of the first", x.says(0, 0), 7);
        DUE.is("PLACE of the last, a PROUD one taken for a SINGER", x.says(7, 0), 0);
    }

    private static void saysByAAtTheEnds() {
        DUE.sentence("HIDER, SHADOW the fewest who must sing for him to be HEARD; MUTE, DEAF his a");
        int[] kinds = {2, 5, 4, 6};
        for (int a = 0; a <= 9; a += 9) {
            OnlyMovesHisLips x = new OnlyMovesHisLips();
            for (int i = 0; i < 4; i++) {
                x.singer(kinds[i], a, 1);
                x.show(i, i);
            }
            DUE.is("a HIDER", x.says(0, 2), a + 2);
            DUE.is("a SHADOW", x.says(1, 5), a + 2);
            DUE.is("a SHADOW for a HIDER", x.says(1, 2), a + 2);
            DUE.is("a MUTE", x.says(2, 4), a);
            DUE.is("a DEAF one", x.says(3, 6), a);
            DUE.is("a DEAF one for a MUTE", x.says(3, 4), a);
        }
    }

    private static void saysOfAShadowAtTheEnd() {
        DUE.sentence("SHADOW the fewest who must sing, wherever he stands");
        OnlyMovesHisLips x = shown(5, 0, 5);
        DUE.is("the first", x.says(0, 5), 2);
        DUE.is("the last", x.says(2, 5), 2);
        x.swap(0, 1);
        DUE.is("between", x.says(0, 5), 2);
    }

    private static void saysByEachKind() {
        DUE.sentence("0 SINGER; 1 LEANER, 2 HIDER, 4 MUTE, each under SINGER; 3 PROUD, under LEANER; 5 SHADOW, under HIDER; 6 DEAF, under MUTE");
        String[] may = {"0", "01", "02", "013", "04", "025", "046"};
        for (int kind = 0; kind <= 6; kind++) {
            OnlyMovesHisLips x = shown(kind);
            for (int wanted = 0; wanted <= 6; wanted++) {
                boolean is = may[kind].indexOf((char) ('0' + wanted)) >= 0;
                int answer = x.says(0, wanted);
                DUE.is(kind + " for " + wanted, answer == -2 ? 0 : 1, is ? 1 : 0);
                DUE.is("REFUSALS -2 by " + kind + " for " + wanted, x.status(12), wanted + 1 - kindsUpTo(may[kind], wanted));
            }
        }
    }

    private static int kindsUpTo(String kinds, int last) {
        int many = 0;
        for (int i = 0; i < kinds.length(); i++) {
            many += kinds.charAt(i) - '0' <= last ? 1 : 0;
        }
        return many;
    }
}
