import java.util.function.Supplier;
import java.util.function.ToLongFunction;

/**
 * REFUSALS: every call that can be refused, by every number that its promise names, each with its answer, its count and all
 * that it leaves as it was; where two numbers fit, the first in the order of the document. And calls that refuse nothing.
 */
public final class RefusalsTest {
    private static final Due DUE = new Due("RefusalsTest");
    private static final int MIN = Integer.MIN_VALUE;
    private static final int MAX = Integer.MAX_VALUE;

    public static void main(String[] args) {
        row();
        set();
        copyByShelves();
        copyByPlaces();
        show();
        says();
        singer();
        singerOf();
        ask();
        loft();
        worldsAndWorld();
        sounds();
        heard();
        knownAndMay();
        likeliestAndBy();
        parts();
        ahead();
        aheadBySets();
        judge();
        behind();
        byEar();
        quietAndSwap();
        isTrue();
        hear();
        evenings();
        restore();
        refusesNothing();
        refusesNothingOfShelves();
        changesNothing();
        DUE.end();
    }

    private static void no(String call, int answer, Supplier<OnlyMovesHisLips> scene, ToLongFunction<OnlyMovesHisLips> made) {
        Look.refused(DUE, call, scene, made, answer, -answer);
    }

    private static void busy(String call, int answer, ToLongFunction<OnlyMovesHisLips> made) {
        no(call, answer, Scenes::busy, made);
    }

    private static void row() {
        DUE.sentence("row: -1; -4; -6 SORT; -7 n above 160");
        busy("row(-1, 0, 1)", -1, x -> x.row(-1, 0, 1));
        busy("row(8, 0, 1)", -1, x -> x.row(8, 0, 1));
        busy("row(MIN, 0, 1)", -1, x -> x.row(MIN, 0, 1));
        busy("row(8, 4, 161)", -1, x -> x.row(8, 4, 161));
        busy("row(8, 4, -1)", -1, x -> x.row(8, 4, -1));
        busy("row(0, 0, -1)", -4, x -> x.row(0, 0, -1));
        busy("row(1, 0, MIN)", -4, x -> x.row(1, 0, MIN));
        busy("row(2, 4, -1)", -4, x -> x.row(2, 4, -1));
        busy("row(0, 4, 1)", -6, x -> x.row(0, 4, 1));
        busy("row(0, -1, 1)", -6, x -> x.row(0, -1, 1));
        busy("row(2, 4, 161)", -6, x -> x.row(2, 4, 161));
        busy("row(0, 0, 161)", -7, x -> x.row(0, 0, 161));
        busy("row(1, 3, 161)", -7, x -> x.row(1, 3, 161));
        busy("row(2, 2, MAX)", -7, x -> x.row(2, 2, MAX));
    }

    private static void set() {
        DUE.sentence("set: -1; -2; -3; -5");
        busy("set(-1, 0, 9)", -1, x -> x.set(-1, 0, 9));
        busy("set(8, -1, 9)", -1, x -> x.set(8, -1, 9));
        busy("set(MAX, 0, 9)", -1, x -> x.set(MAX, 0, 9));
        busy("set(1, 0, 9)", -2, x -> x.set(1, 0, 9));
        busy("set(1, -1, 9)", -2, x -> x.set(1, -1, 9));
        busy("set(2, 0, 9)", -3, x -> x.set(2, 0, 9));
        busy("set(2, -1, 9)", -3, x -> x.set(2, -1, 9));
        busy("set(0, -1, 9)", -5, x -> x.set(0, -1, 9));
        busy("set(0, 5, 9)", -5, x -> x.set(0, 5, 9));
        busy("set(0, MAX, 9)", -5, x -> x.set(0, MAX, 9));
        busy("set(0, MIN, 9)", -5, x -> x.set(0, MIN, 9));
        busy("set(5, 0, 9), of an empty ROW", -5, x -> x.set(5, 0, 9));
    }

    private static void copyByShelves() {
        DUE.sentence("copy: -1; -2 also of two SORTS (when both hold something); -3 either");
        busy("copy(-1, 0, 0, 0, 1)", -1, x -> x.copy(-1, 0, 0, 0, 1));
        busy("copy(0, -1, 0, 0, 1)", -1, x -> x.copy(0, -1, 0, 0, 1));
        busy("copy(8, 1, 0, 0, -1)", -1, x -> x.copy(8, 1, 0, 0, -1));
        busy("copy(1, 8, 0, 0, -1)", -1, x -> x.copy(1, 8, 0, 0, -1));
        busy("copy(2, 8, 0, 0, -1)", -1, x -> x.copy(2, 8, 0, 0, -1));
        busy("a SINGER to a ROW", -2, x -> x.copy(1, 0, 0, 0, -1));
        busy("a ROW to a SINGER", -2, x -> x.copy(0, 1, 0, 0, -1));
        busy("a SINGER to NOTHING", -2, x -> x.copy(1, 2, 0, 0, 1));
        busy("NOTHING to a SINGER", -2, x -> x.copy(2, 1, 0, 0, 1));
        busy("a SINGER to himself", -2, x -> x.copy(1, 1, 0, 0, 0));
        busy("ints to bytes", -2, x -> x.copy(0, 3, 0, 0, 1));
        busy("longs to ints", -2, x -> x.copy(4, 0, 0, 0, -1));
        busy("no elements, of two SORTS", -2, x -> x.copy(5, 3, 0, 0, 0));
        busy("NOTHING to a ROW", -3, x -> x.copy(2, 0, 0, 0, 1));
        busy("a ROW to NOTHING", -3, x -> x.copy(0, 2, 0, 0, -1));
        busy("NOTHING to NOTHING", -3, x -> x.copy(2, 6, -1, -1, -1));
        busy("NOTHING to itself", -3, x -> x.copy(2, 2, 0, 0, 0));
    }

    private static void copyByPlaces() {
        DUE.sentence("copy: -4 n; -5 i or j below 0, or an end that isn't there");
        busy("n below 0", -4, x -> x.copy(0, 0, 0, 1, -1));
        busy("n far below 0", -4, x -> x.copy(0, 0, 0, 1, MIN));
        busy("n and i below 0", -4, x -> x.copy(0, 0, -1, -1, -1));
        busy("i below 0", -5, x -> x.copy(0, 0, -1, 1, 1));
        busy("j below 0", -5, x -> x.copy(0, 0, 1, -1, 1));
        busy("i below 0, no elements", -5, x -> x.copy(0, 0, -1, 0, 0));
        busy("j below 0, no elements", -5, x -> x.copy(0, 0, 0, -1, 0));
        busy("an end in p that isn't there", -5, x -> x.copy(0, 0, 1, 0, 5));
        busy("an end in q that isn't there", -5, x -> x.copy(0, 0, 0, 1, 5));
        busy("no elements, behind the end of p", -5, x -> x.copy(0, 0, 6, 0, 0));
        busy("no elements, behind the end of q", -5, x -> x.copy(0, 0, 0, 6, 0));
        busy("one element to an empty ROW", -5, x -> x.copy(0, 5, 0, 0, 1));
        busy("one element of an empty ROW", -5, x -> x.copy(5, 0, 0, 0, 1));
        busy("i and n together wrap", -5, x -> x.copy(0, 0, 1, 0, MAX));
        busy("j and n together wrap", -5, x -> x.copy(0, 0, 0, 1, MAX));
        busy("i alone is as far as can be", -5, x -> x.copy(0, 0, MAX, 0, 1));
        busy("j alone is as far as can be", -5, x -> x.copy(0, 0, 0, MAX, 1));
        busy("i as low as can be", -5, x -> x.copy(0, 0, MIN, 0, 1));
    }

    private static void show() {
        DUE.sentence("show: -1");
        busy("show(-1, 0)", -1, x -> x.show(-1, 0));
        busy("show(8, 0)", -1, x -> x.show(8, 0));
        busy("show(8, NONE)", -1, x -> x.show(8, -1));
        busy("show(-1, NONE)", -1, x -> x.show(-1, -1));
        busy("show(0, 3)", -1, x -> x.show(0, 3));
        busy("show(1, -2)", -1, x -> x.show(1, -2));
        busy("show(2, MIN)", -1, x -> x.show(2, MIN));
        busy("show(1, 102), as a ROW would be held", -1, x -> x.show(1, 102));
        no("show(0, 0), no SINGERS", -1, Scenes::empty, x -> x.show(0, 0));
    }

    private static void says() {
        DUE.sentence("says: -1 SHELF, KIND; -2 also a SINGER of another KIND; -3");
        busy("says(-1, 0)", -1, x -> x.says(-1, 0));
        busy("says(8, 0)", -1, x -> x.says(8, 0));
        busy("says(1, -1)", -1, x -> x.says(1, -1));
        busy("says(1, 7)", -1, x -> x.says(1, 7));
        busy("says(0, 7), of a ROW", -1, x -> x.says(0, 7));
        busy("says(2, 7), of NOTHING", -1, x -> x.says(2, 7));
        busy("says(0, 0), of a ROW", -2, x -> x.says(0, 0));
        busy("says(5, 6), of an empty ROW", -2, x -> x.says(5, 6));
        for (int kind = 1; kind < 7; kind++) {
            int wanted = kind;
            busy("a SINGER is no " + kind, -2, x -> x.says(1, wanted));
        }
        busy("says(2, 0), of NOTHING", -3, x -> x.says(2, 0));
    }

    private static void singer() {
        DUE.sentence("singer: -1 KIND; -6; -7");
        busy("singer(-1, 0, 1)", -1, x -> x.singer(-1, 0, 1));
        busy("singer(7, 0, 1)", -1, x -> x.singer(7, 0, 1));
        busy("singer(7, 10, 10)", -1, x -> x.singer(7, 10, 10));
        busy("singer(0, -1, 1)", -6, x -> x.singer(0, -1, 1));
        busy("singer(0, 10, 1)", -6, x -> x.singer(0, 10, 1));
        busy("singer(0, 0, 0)", -6, x -> x.singer(0, 0, 0));
        busy("singer(0, 0, 10)", -6, x -> x.singer(0, 0, 10));
        busy("singer(0, MIN, 1)", -6, x -> x.singer(0, MIN, 1));
        busy("singer(0, 0, MAX)", -6, x -> x.singer(0, 0, MAX));
        no("a ninth", -7, Scenes::full, x -> x.singer(0, 0, 1));
        no("a ninth with a 10", -6, Scenes::full, x -> x.singer(0, 10, 1));
        no("a ninth with ODDS 0", -6, Scenes::full, x -> x.singer(0, 0, 0));
        no("a ninth of no KIND", -1, Scenes::full, x -> x.singer(7, 10, 1));
    }

    private static void singerOf() {
        DUE.sentence("singerOf: -5: no such one, another what");
        busy("singerOf(-1, 0)", -5, x -> x.singerOf(-1, 0));
        busy("singerOf(3, 0)", -5, x -> x.singerOf(3, 0));
        busy("singerOf(3, 4)", -5, x -> x.singerOf(3, 4));
        busy("singerOf(0, -1)", -5, x -> x.singerOf(0, -1));
        busy("singerOf(0, 5)", -5, x -> x.singerOf(0, 5));
        busy("singerOf(3, 5)", -5, x -> x.singerOf(3, 5));
        no("no SINGERS", -5, Scenes::empty, x -> x.singerOf(0, 0));
        no("a ninth", -5, Scenes::full, x -> x.singerOf(8, 0));
    }

    private static void ask() {
        DUE.sentence("ask: -6");
        int[][] wrong = {{0, 0}, {0, 4}, {1, 0}, {1, 9}, {2, -1}, {2, 2}, {3, -1}, {3, 51}, {-1, 1}, {4, 1},
            {0, MIN}, {1, MAX}, {MIN, 1}, {MAX, 1}};
        for (int[] w : wrong) {
            busy("ask(" + w[0] + ", " + w[1] + ")", -6, x -> x.ask(w[0], w[1]));
        }
    }

    private static OnlyMovesHisLips withText(String text) {
        OnlyMovesHisLips x = Scenes.busy();
        Due.text(x, 6, 2, text);
        return x;
    }

    private static void loft() {
        DUE.sentence("loft: -1; -2; -3; -6 a FAULT");
        busy("loft(-1)", -1, x -> x.loft(-1));
        busy("loft(8)", -1, x -> x.loft(8));
        busy("loft(1)", -2, x -> x.loft(1));
        busy("loft(2)", -3, x -> x.loft(2));
        // the FAULT of the latest loft() is as before, the place 1, so that all else can be looked at
        no("loft(6) of a FAULT", -6, () -> withText("eel 1"), x -> x.loft(6));
        DUE.sentence("All is told over what there is, or nothing");
        String[] ahead = {"singer 0 0 1", "most 3", "most 2", "least 1", "near 0", "ear 50", "heard 7 1", "swap 0 1", "swap 2 0"};
        for (String item : ahead) {
            OnlyMovesHisLips x = withText(item + ";?");
            OnlyMovesHisLips twin = withText(item + ";?");
            DUE.is("a FAULT behind " + item, x.loft(6), -6);
            DUE.is("its place", x.fault(), item.length() + 1);
            DUE.same("all after " + item, lookWithAnotherFault(x), lookWithAnotherFault(twin));
        }
    }

    /** The FAULT is the one thing that a loft() with a FAULT changes. */
    private static String lookWithAnotherFault(OnlyMovesHisLips x) {
        Due.loft(x, "mist");
        return Look.of(x);
    }

    private static void worldsAndWorld() {
        DUE.sentence("worlds: -5");
        busy("worlds(-1)", -5, x -> x.worlds(-1));
        busy("worlds(2)", -5, x -> x.worlds(2));
        DUE.sentence("world: -5");
        busy("world(-1)", -5, x -> x.world(-1));
        busy("world(3), of three", -5, x -> x.world(3));
        busy("world(MAX)", -5, x -> x.world(MAX));
        no("no SINGERS", -5, Scenes::empty, x -> x.world(0));
        no("none POSSIBLE", -5, Scenes::impossible, x -> x.world(0));
    }

    private static void sounds() {
        DUE.sentence("sounds: -6 an empty set, others than there are, no WORLD");
        int[][] wrong = {{0, 1}, {8, 1}, {9, 1}, {-1, 1}, {MIN, 1}, {MIN + 1, 1}, {1, 0}, {1, 7}, {1, 8}, {1, -1}, {1, MIN}, {0, 0}};
        for (int[] w : wrong) {
            busy("sounds(" + w[0] + ", " + w[1] + ")", -6, x -> x.sounds(w[0], w[1]));
        }
        no("no SINGERS", -6, Scenes::empty, x -> x.sounds(1, 1));
        no("no SINGERS, nobody", -6, Scenes::empty, x -> x.sounds(0, 0));
        no("others than eight", -6, Scenes::full, x -> x.sounds(256, 1));
        no("one wrong at most", -6, Scenes::full, x -> x.sounds(255, 3));
    }

    private static void heard() {
        DUE.sentence("heard: -6 an empty set, others than there are, a sound not 0, 1, what no POSSIBLE one sounds like; -7");
        int[][] wrong = {{0, 1}, {8, 1}, {-1, 1}, {9, 1}, {7, 2}, {7, -1}, {7, MAX}, {0, 2}, {7, 0}, {3, 0},
            {1, 2}, {1, -1}, {1, 3}, {1, MIN}};
        for (int[] w : wrong) {
            busy("heard(" + w[0] + ", " + w[1] + ")", -6, x -> x.heard(w[0], w[1]));
        }
        no("no SINGERS", -6, Scenes::empty, x -> x.heard(1, 1));
        no("a 17th", -7, Scenes::sixteen, x -> x.heard(17, 1));
        no("a 17th that no POSSIBLE one sounds like", -6, Scenes::sixteen, x -> x.heard(17, 0));
        no("a 17th of nobody", -6, Scenes::sixteen, x -> x.heard(0, 0));
        no("none POSSIBLE, KNOWN", -6, Scenes::impossible, x -> x.heard(1, 1));
        no("none POSSIBLE, not KNOWN", -6, Scenes::impossible, x -> x.heard(2, 0));
    }

    private static void knownAndMay() {
        DUE.sentence("known: -5");
        busy("known(-2)", -5, x -> x.known(-2));
        busy("known(2), of two", -5, x -> x.known(2));
        no("known(0), of none", -5, Scenes::empty, x -> x.known(0));
        no("known(16), of 16", -5, Scenes::sixteen, x -> x.known(16));
        no("known(MIN)", -5, Scenes::sixteen, x -> x.known(MIN));
        DUE.sentence("may: -5");
        busy("may(-1)", -5, x -> x.may(-1));
        busy("may(2)", -5, x -> x.may(2));
    }

    private static void likeliestAndBy() {
        DUE.sentence("likeliest: -5 none is POSSIBLE");
        no("no SINGERS", -5, Scenes::empty, x -> x.likeliest());
        no("none POSSIBLE", -5, Scenes::impossible, x -> x.likeliest());
        DUE.sentence("by: -5 another what, none is POSSIBLE");
        busy("by(-1)", -5, x -> x.by(-1));
        busy("by(3)", -5, x -> x.by(3));
        for (int i = 0; i < 3; i++) {
            int what = i;
            no("no SINGERS, by(" + what + ")", -5, Scenes::empty, x -> x.by(what));
            no("none POSSIBLE, by(" + what + ")", -5, Scenes::impossible, x -> x.by(what));
        }
    }

    private static void parts() {
        DUE.sentence("parts: -5 another what; -6 an empty set, others than there are");
        busy("parts(1, -1)", -5, x -> x.parts(1, -1));
        busy("parts(1, 2)", -5, x -> x.parts(1, 2));
        busy("parts(0, 2)", -5, x -> x.parts(0, 2));
        busy("parts(8, -1)", -5, x -> x.parts(8, -1));
        busy("parts(0, 0)", -6, x -> x.parts(0, 0));
        busy("parts(8, 1)", -6, x -> x.parts(8, 1));
        busy("parts(-1, 0)", -6, x -> x.parts(-1, 0));
        no("no SINGERS", -6, Scenes::empty, x -> x.parts(1, 0));
    }

    private static void ahead() {
        DUE.sentence("ahead: -1; -2; -3; -4 n; -5 fewer elements, another what; -6 n above 16, no sets");
        busy("ahead(-1, 1, 0)", -1, x -> x.ahead(-1, 1, 0));
        busy("ahead(8, -1, 2)", -1, x -> x.ahead(8, -1, 2));
        busy("ahead(1, 1, 0)", -2, x -> x.ahead(1, 1, 0));
        busy("ahead(1, -1, 2)", -2, x -> x.ahead(1, -1, 2));
        busy("ahead(2, 0, 0)", -3, x -> x.ahead(2, 0, 0));
        busy("ahead(2, -1, 2)", -3, x -> x.ahead(2, -1, 2));
        busy("ahead(0, -1, 0)", -4, x -> x.ahead(0, -1, 0));
        busy("ahead(0, MIN, 2)", -4, x -> x.ahead(0, MIN, 2));
        busy("ahead(0, 6, 0), of five", -5, x -> x.ahead(0, 6, 0));
        busy("ahead(5, 1, 0), of none", -5, x -> x.ahead(5, 1, 0));
        busy("ahead(0, 17, 0), of five", -5, x -> x.ahead(0, 17, 0));
        busy("ahead(0, MAX, 0)", -5, x -> x.ahead(0, MAX, 0));
        busy("ahead(0, 1, 2)", -5, x -> x.ahead(0, 1, 2));
        busy("ahead(0, 1, -1)", -5, x -> x.ahead(0, 1, -1));
        busy("ahead(3, 17, 2), of forty", -5, x -> x.ahead(3, 17, 2));
        busy("ahead(3, 17, 0), of forty", -6, x -> x.ahead(3, 17, 0));
        busy("ahead(3, 1, 0), of nobody", -6, x -> x.ahead(3, 1, 0));
    }

    private static OnlyMovesHisLips withRow(long... row) {
        OnlyMovesHisLips x = Scenes.busy();
        Due.row(x, 6, row);
        return x;
    }

    private static void aheadBySets() {
        DUE.sentence("ahead: -6 no sets");
        long[] noSets = {0, 8, 9, -1, MIN};
        for (long set : noSets) {
            no("the last of three is " + set, -6, () -> withRow(1, 7, set), x -> x.ahead(6, 3, 1));
            no("the first of three is " + set, -6, () -> withRow(set, 7, 1), x -> x.ahead(6, 3, 0));
            Look.unchanged(DUE, set + " behind those told", () -> withRow(1, 7, set), x -> x.ahead(6, 2, 0), 2);
        }
    }

    private static void told(String call, int answer, Supplier<OnlyMovesHisLips> scene, ToLongFunction<OnlyMovesHisLips> made) {
        Look.refused(DUE, call, scene, made, answer, -answer - 10);
    }

    private static void judge() {
        DUE.sentence("judge: -11; -12; -13; -14 n; -15 fewer elements; -16 n above 32 (counted as -1 to -6)");
        told("judge(-1, 1)", -11, Scenes::busy, x -> x.judge(-1, 1));
        told("judge(8, -1)", -11, Scenes::busy, x -> x.judge(8, -1));
        told("judge(1, 1)", -12, Scenes::busy, x -> x.judge(1, 1));
        told("judge(1, -1)", -12, Scenes::busy, x -> x.judge(1, -1));
        told("judge(2, 0)", -13, Scenes::busy, x -> x.judge(2, 0));
        told("judge(2, -1)", -13, Scenes::busy, x -> x.judge(2, -1));
        told("judge(0, -1)", -14, Scenes::busy, x -> x.judge(0, -1));
        told("judge(0, MIN)", -14, Scenes::busy, x -> x.judge(0, MIN));
        told("judge(0, 6), of five", -15, Scenes::busy, x -> x.judge(0, 6));
        told("judge(5, 1), of none", -15, Scenes::busy, x -> x.judge(5, 1));
        told("judge(3, 41), of forty", -15, Scenes::busy, x -> x.judge(3, 41));
        told("judge(3, 33), of forty", -16, Scenes::busy, x -> x.judge(3, 33));
        told("judge(3, 40), of forty", -16, Scenes::busy, x -> x.judge(3, 40));
    }

    private static void behind() {
        DUE.sentence("behind: -1; -2; -3; -4; -5; -6 also if it is WRONG, n odd");
        busy("behind(-1, 0)", -1, x -> x.behind(-1, 0));
        busy("behind(8, -1)", -1, x -> x.behind(8, -1));
        busy("behind(1, 0)", -2, x -> x.behind(1, 0));
        busy("behind(1, -1)", -2, x -> x.behind(1, -1));
        busy("behind(2, 0)", -3, x -> x.behind(2, 0));
        busy("behind(2, -1)", -3, x -> x.behind(2, -1));
        busy("behind(0, -1)", -4, x -> x.behind(0, -1));
        busy("behind(0, -2)", -4, x -> x.behind(0, -2));
        busy("behind(0, 6), of five", -5, x -> x.behind(0, 6));
        busy("behind(0, 7), odd, of five", -5, x -> x.behind(0, 7));
        busy("behind(3, 41), of forty", -5, x -> x.behind(3, 41));
        busy("behind(0, 1), odd", -6, x -> x.behind(0, 1));
        busy("behind(0, 5), odd", -6, x -> x.behind(0, 5));
        busy("behind(3, 34), of forty", -6, x -> x.behind(3, 34));
        busy("behind(3, 2), of nobody", -6, x -> x.behind(3, 2));
        no("WRONG by LEAST", -6, () -> withRow(2, 1), x -> x.behind(6, 2));
        no("WRONG by NEIGHBOURS", -6, () -> withRow(5, 1), x -> x.behind(6, 2));
        no("WRONG: no sound", -6, () -> withRow(3, 2), x -> x.behind(6, 2));
        no("WRONG by what is KNOWN", -6, () -> withRow(3, 0), x -> x.behind(6, 2));
        no("WRONG behind what isn't", -6, () -> withRow(7, 1, 6, 0), x -> x.behind(6, 4));
    }

    private static void byEar() {
        DUE.sentence("byEar: -1; -2; -3; -4; -5 also: no SINGERS; -6 n above 32, odd, no sets, no sounds");
        busy("byEar(-1, 0)", -1, x -> x.byEar(-1, 0));
        busy("byEar(8, -1)", -1, x -> x.byEar(8, -1));
        busy("byEar(1, -1)", -2, x -> x.byEar(1, -1));
        busy("byEar(2, -1)", -3, x -> x.byEar(2, -1));
        busy("byEar(0, -1)", -4, x -> x.byEar(0, -1));
        busy("byEar(0, 6), of five", -5, x -> x.byEar(0, 6));
        busy("byEar(0, 7), odd, of five", -5, x -> x.byEar(0, 7));
        busy("byEar(3, 41), of forty", -5, x -> x.byEar(3, 41));
        busy("byEar(0, 1), odd", -6, x -> x.byEar(0, 1));
        busy("byEar(3, 34), of forty", -6, x -> x.byEar(3, 34));
        busy("byEar(3, 2), of nobody", -6, x -> x.byEar(3, 2));
        long[][] wrong = {{0, 1}, {8, 1}, {-1, 1}, {3, 2}, {3, -1}, {7, 1, 0, 1}, {7, 1, 3, 2}};
        for (long[] w : wrong) {
            no("byEar of " + java.util.Arrays.toString(w), -6, () -> withRow(w), x -> x.byEar(6, w.length));
        }
        Supplier<OnlyMovesHisLips> nobody = () -> {
            OnlyMovesHisLips x = new OnlyMovesHisLips();
            x.row(0, 0, 40);
            return x;
        };
        no("no SINGERS, nothing told", -5, nobody, x -> x.byEar(0, 0));
        no("no SINGERS, odd", -5, nobody, x -> x.byEar(0, 1));
        no("no SINGERS, n above 32", -5, nobody, x -> x.byEar(0, 34));
        no("no SINGERS, n below 0", -4, nobody, x -> x.byEar(0, -1));
        no("no SINGERS, NOTHING", -3, nobody, x -> x.byEar(1, 0));
    }

    private static void quietAndSwap() {
        DUE.sentence("quiet: -5 no SINGERS");
        no("quiet()", -5, Scenes::empty, x -> x.quiet());
        DUE.sentence("swap: -1; -6 the same");
        busy("swap(-1, 0)", -1, x -> x.swap(-1, 0));
        busy("swap(0, -1)", -1, x -> x.swap(0, -1));
        busy("swap(3, 0)", -1, x -> x.swap(3, 0));
        busy("swap(0, 3)", -1, x -> x.swap(0, 3));
        busy("swap(3, 3)", -1, x -> x.swap(3, 3));
        busy("swap(-1, -1)", -1, x -> x.swap(-1, -1));
        busy("swap(0, 0)", -6, x -> x.swap(0, 0));
        busy("swap(2, 2)", -6, x -> x.swap(2, 2));
        no("swap(0, 8), of eight", -1, Scenes::full, x -> x.swap(0, 8));
        no("swap(0, 0), of none", -1, Scenes::empty, x -> x.swap(0, 0));
    }

    private static void isTrue() {
        DUE.sentence("isTrue: -6 it is none");
        for (int world : new int[] {0, 7, 8, -1, MIN, MAX}) {
            busy("isTrue(" + world + ")", -6, x -> x.isTrue(world));
        }
        no("more than MOST", -6, Scenes::full, x -> x.isTrue(3));
        no("others than there are", -6, Scenes::full, x -> x.isTrue(256));
        no("no SINGERS, nobody", -6, Scenes::empty, x -> x.isTrue(0));
        no("no SINGERS", -6, Scenes::empty, x -> x.isTrue(1));
    }

    private static void hear() {
        DUE.sentence("hear: -6 it isn't LAWFUL; -7 no room for another");
        for (int set : new int[] {0, 8, 9, -1, MIN, MAX}) {
            busy("no set " + set, -6, x -> x.hear(set));
        }
        busy("fewer than LEAST", -6, x -> x.hear(2));
        busy("not NEIGHBOURS", -6, x -> x.hear(5));
        no("no SINGERS", -6, Scenes::empty, x -> x.hear(1));
        no("a 17th", -7, Scenes::sixteen, x -> x.hear(17));
        no("a 17th, of others than there are", -6, Scenes::sixteen, x -> x.hear(32));
        no("a 17th, of nobody", -6, Scenes::sixteen, x -> x.hear(0));
    }

    private static void evenings() {
        DUE.sentence("evenings: -5 no SINGERS; -6");
        no("none of nobody", -5, Scenes::empty, x -> x.evenings(1));
        no("0, of nobody", -5, Scenes::empty, x -> x.evenings(0));
        no("21, of nobody", -5, Scenes::empty, x -> x.evenings(21));
        for (int n : new int[] {0, -1, 21, MIN, MAX}) {
            busy("evenings(" + n + ")", -6, x -> x.evenings(n));
        }
    }

    private static void restore() {
        DUE.sentence("restore: -6 there is none");
        no("a new object", -6, Scenes::empty, x -> x.restore());
        no("three SINGERS", -6, () -> Due.choir(0, 1, 2), x -> x.restore());
    }

    private static void free(String call, long answer, ToLongFunction<OnlyMovesHisLips> made) {
        Look.unchanged(DUE, call, Scenes::busy, made, answer);
    }

    private static void refusesNothing() {
        DUE.sentence("answers of NONE and 0 that aren't REFUSALS");
        free("next()", -1, x -> x.next());
        Look.unchanged(DUE, "next() of none", Scenes::empty, x -> x.next(), -1);
        Look.unchanged(DUE, "next(), none POSSIBLE", Scenes::impossible, x -> x.next(), -1);
        Look.unchanged(DUE, "beside() of none", Scenes::empty, x -> x.beside(), -1);
        Look.unchanged(DUE, "fault() of none", Scenes::empty, x -> x.fault(), -1);
        Look.unchanged(DUE, "known(NONE) of none", Scenes::empty, x -> x.known(-1), 0);
        Look.unchanged(DUE, "forget() of none", Scenes::empty, x -> x.forget(), 0);
        free("lawful(0)", 0, x -> x.lawful(0));
        free("lawful(8)", 0, x -> x.lawful(8));
        free("lawful(-1)", 0, x -> x.lawful(-1));
        free("trace(-1)", -1, x -> x.trace(-1));
        free("trace(6), of six", -1, x -> x.trace(6));
        free("trace(20)", -1, x -> x.trace(20));
        for (int what : new int[] {-1, 9, 10, 18, MIN, MAX}) {
            free("status(" + what + ")", -1, x -> x.status(what));
        }
        free("judge() of what isn't LAWFUL", 0, x -> x.judge(3, 1));
        DUE.sentence("says: (NONE isn't refused.)");
        Supplier<OnlyMovesHisLips> first = () -> {
            OnlyMovesHisLips x = Due.choir(1, 0);
            x.show(0, 0);
            return x;
        };
        Look.unchanged(DUE, "says(0, 1) of the first in the row", first, x -> x.says(0, 1), -1);
    }

    private static void refusesNothingOfShelves() {
        DUE.sentence("element: 0 if there is none (nothing is refused)");
        int[][] none = {{-1, 0}, {8, 0}, {1, 0}, {2, 0}, {0, -1}, {0, 5}, {5, 0}, {0, MAX}, {MIN, MIN}};
        for (int[] at : none) {
            free("element(" + at[0] + ", " + at[1] + ")", 0, x -> x.element(at[0], at[1]));
        }
        DUE.sentence("holds: NONE NOTHING, or no such SHELF");
        for (int s : new int[] {-1, 8, 2, MIN, MAX}) {
            free("holds(" + s + ")", -1, x -> x.holds(s));
        }
    }

    private static void changesNothing() {
        DUE.sentence("3. WHAT CAN BE SAID (nothing is changed)");
        free("worlds(0)", 6, x -> x.worlds(0));
        free("worlds(1)", 3, x -> x.worlds(1));
        free("world(2)", 6, x -> x.world(2));
        free("sounds(7, 2)", 1, x -> x.sounds(7, 2));
        free("known(1)", 7, x -> x.known(1));
        free("may(0)", 7, x -> x.may(0));
        free("may(1)", 2, x -> x.may(1));
        // the WEIGHTS of 2, 3 and 6 are 2, 6 and 8
        free("singerOf(2, 4)", 500, x -> x.singerOf(2, 4));
        free("likeliest()", 6, x -> x.likeliest());
        free("lawful(7)", 1, x -> x.lawful(7));
        free("parts(1, 0)", 1, x -> x.parts(1, 0));
        free("parts(1, 1)", 2, x -> x.parts(1, 1));
        free("by(0)", 0, x -> x.by(0));
        free("by(2)", 3, x -> x.by(2));
        free("ahead(0, 1, 0)", 1, x -> x.ahead(0, 1, 0));
        free("judge(0, 4)", -1, x -> x.judge(0, 4));
        free("behind(0, 4)", 3, x -> x.behind(0, 4));
        free("byEar(0, 4)", 6, x -> x.byEar(0, 4));
        free("says(1, 0)", 1, x -> x.says(1, 0));
        free("holds(1)", 1, x -> x.holds(1));
        free("element(4, 1)", Long.MAX_VALUE, x -> x.element(4, 1));
        free("trace(5)", 10, x -> x.trace(5));
        free("fault()", Scenes.BUSY_FAULT, x -> x.fault());
        free("status(7)", 77, x -> x.status(7));
        // in the row 2 1 0 all sing: 1 is wrong and a SINGER, wherever he stands
        free("beside()", -1, x -> x.beside());
        // 0 alone stands behind 1, who is right: that is the only WORLD that can sound right
        free("quiet()", 1, x -> x.quiet());
        Look.unchanged(DUE, "next() that there is", () -> Due.choir(0, 0, 0), x -> x.next(), 1);
        Look.unchanged(DUE, "by(1) of some", () -> Due.choir(0, 0, 0), x -> x.by(1), 1666);
        Look.unchanged(DUE, "beside() that there is", () -> Due.choir(1, 4), x -> x.beside(), 1);
    }
}
