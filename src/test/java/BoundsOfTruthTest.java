/** Each sentence that names a bound of PLACES, of what is TRUE and of EVENINGS (promises 30 to 36). */
public final class BoundsOfTruthTest {
    private static final Due DUE = new Due("BoundsOfTruthTest");
    private static final int MIN = Integer.MIN_VALUE;
    private static final int MAX = Integer.MAX_VALUE;

    public static void main(String[] args) {
        besideOfNoneAndOne();
        besideAlreadyRight();
        besideByNoChange();
        besideTheFirstTwo();
        besideTheLastTwo();
        besideWhateverElse();
        quietOfNoneAndOne();
        quietByNoChange();
        quietByAChange();
        quietOfAllAndOfNone();
        quietOfWorldsThatAreNotPossible();
        swapAtTheEnds();
        swapTwice();
        swapForgets();
        theFirstIsTrueAtFirst();
        isTrueAtTheEnds();
        isTrueForgets();
        isTrueThoughItIsNotPossible();
        hearAtTheEnds();
        hearByLaw();
        hearWithoutRoom();
        eveningsFrom1To20();
        eveningsOfNobody();
        eveningsOfOne();
        eveningsWithoutANext();
        eveningsForget();
        eveningsWithoutRoom();
        eveningsOneByOne();
        seedAtTheEnds();
        drawsWrap();
        drawsWithoutSign();
        seedChangesNothingElse();
        DUE.end();
    }

    private static void besideOfNoneAndOne() {
        DUE.sentence("BESIDE: NONE: none: no SINGERS, one SINGER");
        DUE.is("no SINGERS", new OnlyMovesHisLips().beside(), -1);
        DUE.is("one SINGER", Due.choir(0).beside(), -1);
        DUE.is("one MUTE", Due.choir(4).beside(), -1);
    }

    private static void besideAlreadyRight() {
        DUE.sentence("BESIDE: NONE: .. or it does already");
        DUE.is("a MUTE", Due.choir(4, 0).beside(), -1);
        OnlyMovesHisLips x = Due.choir(1, 0);
        DUE.is("a LEANER first", x.beside(), 1);
        x.swap(0, 1);
        DUE.is("a LEANER second", x.beside(), -1);
        x.isTrue(2);
        DUE.is("another is TRUE", x.beside(), -1);
    }

    private static void besideByNoChange() {
        DUE.sentence("BESIDE: NONE: none");
        DUE.is("SINGERS", Scenes.full().beside(), -1);
        OnlyMovesHisLips x = Due.choir(1, 4);
        x.ask(0, 2);
        x.isTrue(3);
        DUE.is("nobody is right", x.beside(), -1);
        DUE.is("a HIDER among enough", Due.choir(2, 0).beside(), -1);
        DUE.is("a DEAF one", Due.choir(6, 0).beside(), -1);
    }

    private static void besideTheFirstTwo() {
        DUE.sentence("BESIDE: the first two SINGERS (the lesser first) ..: 100 times the lesser and the other");
        DUE.is("0 and 1", Due.choir(1, 0, 0, 0).beside(), 1);
        OnlyMovesHisLips x = Due.choir(0, 0, 1);
        x.swap(0, 2);
        // the row: 2 1 0; 0 and 1 leave 2 ahead of all, 0 and 2 do not
        x.isTrue(4);
        DUE.is("0 and 2", x.beside(), 2);
        OnlyMovesHisLips shadow = Due.choir(4, 4, 5, 4);
        shadow.isTrue(4);
        DUE.is("a SHADOW, 2, to the first PLACE", shadow.beside(), 2);
        shadow.swap(0, 3);
        // the row: 3 1 2 0: again an end for 2
        shadow.isTrue(4);
        DUE.is("a SHADOW, 2, to the last PLACE", shadow.beside(), 2);
    }

    private static void besideTheLastTwo() {
        DUE.sentence("BESIDE: the last two SINGERS");
        OnlyMovesHisLips x = Due.choir(4, 4, 1, 4);
        x.swap(0, 2);
        x.swap(0, 1);
        x.ask(0, 2);
        // the row: 2 0 1 3; 2 and 0 are wrong: only in the place of 3 he is behind one who is right
        x.isTrue(5);
        DUE.is("2 and 3", x.beside(), 203);
    }

    private static void besideWhateverElse() {
        DUE.sentence("BESIDE: when all sing, by the WORLD that is TRUE: whatever the LAW, whatever is KNOWN");
        OnlyMovesHisLips x = Due.choir(1, 0);
        x.ask(1, 8);
        DUE.is("nothing is LAWFUL", x.beside(), 1);
        x.heard(1, 0);
        DUE.is("it isn't POSSIBLE", x.beside(), 1);
        DUE.is("PLACES stay", x.singerOf(0, 3), 0);
        DUE.is("KNOWN stays", x.known(-1), 1);
        DUE.is("it sounds as before", x.sounds(3, 1), 1);
    }

    private static void quietOfNoneAndOne() {
        DUE.sentence("quiet: -5 no SINGERS; QUIET of one");
        DUE.is("no SINGERS", new OnlyMovesHisLips().quiet(), -5);
        DUE.is("a SINGER", Due.choir(0).quiet(), 0);
        DUE.is("a LEANER", Due.choir(1).quiet(), 0);
        DUE.is("a HIDER", Due.choir(2).quiet(), 1);
        DUE.is("a PROUD one", Due.choir(3).quiet(), 0);
        DUE.is("a MUTE", Due.choir(4).quiet(), 1);
        DUE.is("a SHADOW", Due.choir(5).quiet(), 1);
        DUE.is("a DEAF one", Due.choir(6).quiet(), 0);
    }

    private static void quietByNoChange() {
        DUE.sentence("QUIET: .. by such a change, or none");
        DUE.is("a LEANER behind a SINGER", Due.choir(0, 1).quiet(), 1);
        // both SHADOWS are at an end, and by any change one of them at most
        DUE.is("two SHADOWS at the ends", Due.choir(5, 0, 5).quiet(), 2);
    }

    private static void quietByAChange() {
        DUE.sentence("QUIET: .. by such a change");
        DUE.is("a LEANER first", Due.choir(1, 0).quiet(), 1);
        DUE.is("a SHADOW between", Due.choir(0, 5, 0).quiet(), 1);
        // when 0 and 1 change, 0 leans on 1 and 2 on 0
        DUE.is("LEANERS", Due.choir(1, 0, 1).quiet(), 2);
    }

    private static void quietOfAllAndOfNone() {
        DUE.sentence("QUIET: the greatest number of WORLDS");
        OnlyMovesHisLips x = Due.choir(4, 4, 4, 4, 4, 4, 4, 4);
        x.ask(0, 3);
        DUE.is("all", x.quiet(), 92);
        OnlyMovesHisLips y = Scenes.full();
        y.ask(0, 3);
        DUE.is("none", y.quiet(), 0);
    }

    private static void quietOfWorldsThatAreNotPossible() {
        DUE.sentence("QUIET: of WORLDS, POSSIBLE or not");
        OnlyMovesHisLips x = Due.choir(4, 0);
        x.heard(3, 1);
        DUE.is("quiet", x.quiet(), 1);
        DUE.is("none POSSIBLE", Scenes.impossible().quiet(), 0);
        OnlyMovesHisLips mutes = Due.choir(4, 4);
        mutes.ask(1, 8);
        DUE.is("nothing LAWFUL", mutes.quiet(), 2);
    }

    private static void swapAtTheEnds() {
        DUE.sentence("swap: -1; -6 the same");
        OnlyMovesHisLips x = Scenes.full();
        DUE.is("the first and the last", x.swap(0, 7), 1);
        DUE.is("PLACE of 0", x.singerOf(0, 3), 7);
        DUE.is("PLACE of 7", x.singerOf(7, 3), 0);
        DUE.is("one too many", x.swap(0, 8), -1);
        DUE.is("one too few", x.swap(-1, 7), -1);
        DUE.is("both, the same", x.swap(8, 8), -1);
        DUE.is("the same", x.swap(7, 7), -6);
        DUE.is("the last first", x.swap(7, 0), 1);
        DUE.is("PLACE of 0 then", x.singerOf(0, 3), 0);
        DUE.is("no SINGERS", new OnlyMovesHisLips().swap(0, 0), -1);
    }

    private static void swapTwice() {
        DUE.sentence("swap: Two SINGERS change PLACES in truth");
        OnlyMovesHisLips x = Due.choir(0, 1, 0);
        x.swap(0, 1);
        x.swap(1, 2);
        // the row: 2 0 1
        int[] places = {1, 2, 0};
        for (int i = 0; i < 3; i++) {
            DUE.is("PLACE of " + i, x.singerOf(i, 3), places[i]);
        }
        DUE.is("1 leans on 0", x.sounds(3, 2), 0);
        DUE.is("1 doesn't lean on 2", x.sounds(6, 2), 1);
        x.swap(1, 2);
        x.swap(1, 0);
        for (int i = 0; i < 3; i++) {
            DUE.is("PLACE of " + i + " as at first", x.singerOf(i, 3), i);
        }
    }

    private static void swapForgets() {
        DUE.sentence("whenever .. PLACES change it is the first, and no HEARINGS are KNOWN");
        OnlyMovesHisLips x = Due.choir(0, 0);
        x.isTrue(2);
        x.hear(1);
        x.swap(0, 1);
        DUE.is("TRUE", x.status(6), 1);
        DUE.is("KNOWN", x.known(-1), 0);
        DUE.is("POSSIBLE", x.worlds(1), 2);
    }

    private static void theFirstIsTrueAtFirst() {
        DUE.sentence("a WORLD is TRUE (the first at first; ..); 6 the WORLD that is TRUE (bits; 0 without SINGERS)");
        OnlyMovesHisLips x = new OnlyMovesHisLips();
        DUE.is("without SINGERS", x.status(6), 0);
        x.singer(4, 0, 1);
        DUE.is("of one", x.status(6), 1);
        x.singer(4, 0, 1);
        x.isTrue(2);
        DUE.is("another", x.status(6), 2);
        x.singer(4, 0, 1);
        DUE.is("when one comes", x.status(6), 1);
    }

    private static void isTrueAtTheEnds() {
        DUE.sentence("isTrue: Which WORLD is TRUE becomes one: the one ahead. -6 it is none");
        OnlyMovesHisLips x = Scenes.full();
        DUE.is("the last of MOST 1", x.isTrue(128), 1);
        DUE.is("a pair of MOST 1", x.isTrue(3), -6);
        DUE.is("beyond all", x.isTrue(256), -6);
        DUE.is("nobody", x.isTrue(0), -6);
        DUE.is("below", x.isTrue(-1), -6);
        DUE.is("MIN", x.isTrue(MIN), -6);
        DUE.is("still", x.status(6), 128);
        x.ask(0, 3);
        DUE.is("the last of all", x.isTrue(224), 1);
        DUE.is("four", x.isTrue(15), -6);
        DUE.is("all", x.isTrue(255), -6);
        DUE.is("the first", x.isTrue(1), 224);
    }

    private static void isTrueForgets() {
        DUE.sentence("isTrue: (no HEARINGS are KNOWN then)");
        OnlyMovesHisLips x = Scenes.sixteen();
        DUE.is("to what it was", x.isTrue(1), 1);
        DUE.is("KNOWN", x.known(-1), 0);
        DUE.is("POSSIBLE", x.worlds(1), 5);
        DUE.is("room again", x.hear(17), 1);
    }

    private static void isTrueThoughItIsNotPossible() {
        DUE.sentence("isTrue: a WORLD that isn't POSSIBLE");
        OnlyMovesHisLips x = Due.choir(0, 0);
        x.heard(1, 1);
        DUE.is("isTrue(2)", x.isTrue(2), 1);
        DUE.is("status(6)", x.status(6), 2);
        DUE.is("then", x.hear(1), 0);
    }

    private static void hearAtTheEnds() {
        DUE.sentence("hear: A HEARING in truth: 1, 0. -6 it isn't LAWFUL");
        OnlyMovesHisLips x = Scenes.full();
        x.isTrue(128);
        DUE.is("nobody", x.hear(0), -6);
        DUE.is("the first", x.hear(1), 0);
        DUE.is("the last", x.hear(128), 1);
        DUE.is("all", x.hear(255), 1);
        DUE.is("one too many", x.hear(256), -6);
        DUE.is("below", x.hear(-1), -6);
        DUE.is("KNOWN", x.known(-1), 3);
        DUE.is("no SINGERS", new OnlyMovesHisLips().hear(1), -6);
    }

    private static void hearByLaw() {
        DUE.sentence("A HEARING: how a LAWFUL set sounds");
        OnlyMovesHisLips x = Due.choir(0, 0, 0, 0);
        x.ask(1, 2);
        DUE.is("one of two", x.hear(1), -6);
        DUE.is("two of two", x.hear(3), 1);
        x.ask(2, 1);
        DUE.is("a gap", x.hear(5), -6);
        DUE.is("no gap", x.hear(6), 0);
        x.ask(1, 5);
        DUE.is("five of four", x.hear(15), -6);
        x.ask(1, 4);
        DUE.is("four of four", x.hear(15), 1);
        DUE.is("KNOWN", x.known(-1), 3);
    }

    private static void hearWithoutRoom() {
        DUE.sentence("hear: -7 no room for another");
        OnlyMovesHisLips x = Scenes.sixteen();
        DUE.is("another", x.hear(17), -7);
        DUE.is("one that is KNOWN", x.hear(1), 1);
        DUE.is("one that isn't LAWFUL", x.hear(0), -6);
        x.forget();
        DUE.is("with room", x.hear(17), 1);
    }

    private static void eveningsFrom1To20() {
        DUE.sentence("evenings: n EVENINGS (1 to 20)");
        OnlyMovesHisLips x = Due.choir(0, 0);
        DUE.is("0", x.evenings(0), -6);
        DUE.is("-1", x.evenings(-1), -6);
        DUE.is("21", x.evenings(21), -6);
        DUE.is("MAX", x.evenings(MAX), -6);
        DUE.is("MIN", x.evenings(MIN), -6);
        DUE.is("no DRAW", x.status(7), 1);
        // of two each EVENING takes one HEARING
        DUE.is("1", x.evenings(1), 1);
        DUE.is("one DRAW", x.status(7), 1103527590);
        DUE.is("20", x.evenings(20), 20);
        int seed = 1;
        for (int i = 0; i < 21; i++) {
            seed = seed * 1103515245 + 12345;
        }
        DUE.is("21 DRAWS", x.status(7), seed);
        DUE.is("KNOWN of the last alone", x.known(-1), 1);
    }

    private static void eveningsOfNobody() {
        DUE.sentence("evenings: -5 no SINGERS");
        OnlyMovesHisLips x = new OnlyMovesHisLips();
        DUE.is("1", x.evenings(1), -5);
        DUE.is("0", x.evenings(0), -5);
        DUE.is("21", x.evenings(21), -5);
        DUE.is("no DRAW", x.status(7), 1);
    }

    private static void eveningsOfOne() {
        DUE.sentence("NEXT is heard, on and on, as BY NEXT: one WORLD");
        OnlyMovesHisLips x = Due.choir(0);
        DUE.is("20", x.evenings(20), 0);
        DUE.is("KNOWN", x.known(-1), 0);
        DUE.is("a DRAW of one each", x.evenings(1), 0);
        DUE.is("TRUE", x.status(6), 1);
    }

    private static void eveningsWithoutANext() {
        DUE.sentence("NEXT is heard, on and on, as BY NEXT: no NEXT");
        OnlyMovesHisLips x = Due.choir(0, 0, 0);
        x.ask(1, 3);
        DUE.is("all or none", x.evenings(3), 0);
        x.ask(1, 4);
        DUE.is("nothing LAWFUL", x.evenings(3), 0);
        DUE.is("mutes", Due.choir(4, 4).evenings(20), 0);
        int seed = 1;
        for (int i = 0; i < 6; i++) {
            seed = seed * 1103515245 + 12345;
        }
        DUE.is("a DRAW for each", x.status(7), seed);
        DUE.is("TRUE by it", x.status(6), 1 << (seed >>> 16) % 3);
    }

    private static void eveningsForget() {
        DUE.sentence("An EVENING by draws: .. no HEARINGS are KNOWN; then NEXT is heard");
        OnlyMovesHisLips x = Scenes.sixteen();
        x.seed(1);
        // 16838 modulo 5 is 3: 8 is TRUE, heard by 3, then 4, then 8
        DUE.is("one", x.evenings(1), 3);
        DUE.is("TRUE", x.status(6), 8);
        DUE.is("KNOWN", x.known(-1), 3);
        int[] known = {6, 8, 17};
        for (int i = 0; i < 3; i++) {
            DUE.is("known(" + i + ")", x.known(i), known[i]);
        }
        OnlyMovesHisLips none = Scenes.impossible();
        DUE.is("none was POSSIBLE", none.evenings(1), 1);
        DUE.is("one is", none.worlds(1), 1);
    }

    private static void eveningsWithoutRoom() {
        DUE.sentence("An EVENING: .. (while there is room)");
        OnlyMovesHisLips x = Scenes.full();
        x.ask(0, 3);
        x.ask(1, 6);
        x.seed(5);
        // a WORLD of three, which 28 HEARINGS could tell from the pairs
        DUE.is("one", x.evenings(1), 16);
        DUE.is("KNOWN", x.known(-1), 16);
        DUE.is("nothing refused", x.status(17), 0);
        x.seed(5);
        int first = x.evenings(1);
        int second = x.evenings(1);
        x.seed(5);
        DUE.is("two, each with room of its own", x.evenings(2), first + second);
    }

    private static void eveningsOneByOne() {
        DUE.sentence("evenings: how many HEARINGS in all");
        OnlyMovesHisLips x = Due.choir(0, 1, 2, 3, 4, 5, 6);
        x.ask(0, 2);
        OnlyMovesHisLips y = Due.choir(0, 1, 2, 3, 4, 5, 6);
        y.ask(0, 2);
        int sum = 0;
        for (int i = 0; i < 20; i++) {
            sum += y.evenings(1);
        }
        DUE.is("20 at once", x.evenings(20), sum);
        DUE.is("SEED", x.status(7), y.status(7));
        DUE.is("TRUE", x.status(6), y.status(6));
        DUE.is("KNOWN", x.known(-1), y.known(-1));
    }

    private static void seedAtTheEnds() {
        DUE.sentence("seed: SEED becomes v: what it was (nothing is refused)");
        OnlyMovesHisLips x = new OnlyMovesHisLips();
        int[] seeds = {0, -1, MAX, MIN, 1};
        int before = 1;
        for (int seed : seeds) {
            DUE.is("seed(" + seed + ")", x.seed(seed), before);
            DUE.is("status(7)", x.status(7), seed);
            before = seed;
        }
        for (int what = 11; what <= 17; what++) {
            DUE.is("status(" + what + ")", x.status(what), 0);
        }
    }

    private static void draw(int seed, int then, int world, int hearings) {
        OnlyMovesHisLips x = Due.choir(0, 0, 0);
        x.seed(seed);
        DUE.is("evenings(1) from " + seed, x.evenings(1), hearings);
        DUE.is("SEED then", x.status(7), then);
        DUE.is("TRUE then", x.status(6), world);
    }

    private static void drawsWrap() {
        DUE.sentence("A DRAW: SEED becomes SEED times 1103515245, and 12345 (an int, wrapping)");
        // the upper 16 bits: 0, 16838, 15929, 32768; modulo 3: 0, 2, 2, 2
        draw(0, 12345, 1, 1);
        draw(1, 1103527590, 4, 2);
        draw(MAX, 1043980748, 4, 2);
        draw(MIN, -2147471303, 4, 2);
    }

    private static void drawsWithoutSign() {
        DUE.sentence("A DRAW: its upper 16 bits, no sign, modulo n");
        // -1103502900 has 48697 above, 1 modulo 3; -1770082073 has 38526, 0 modulo 3
        draw(-1, -1103502900, 2, 2);
        draw(1103527590, -1770082073, 1, 1);
    }

    private static void seedChangesNothingElse() {
        DUE.sentence("seed: nothing but SEED");
        OnlyMovesHisLips x = Due.choir(0, 0);
        x.isTrue(2);
        x.hear(2);
        x.seed(9);
        DUE.is("TRUE", x.status(6), 2);
        DUE.is("KNOWN", x.known(0), 5);
        x.ask(0, 2);
        x.swap(0, 1);
        x.singer(0, 0, 1);
        DUE.is("SEED stays", x.status(7), 9);
    }
}
