/** Each sentence that names a bound of SINGERS, WORLDS, the LAW and HEARINGS (promises 9 to 11 and 14 to 19). */
public final class BoundsOfLoftTest {
    private static final Due DUE = new Due("BoundsOfLoftTest");
    private static final int MIN = Integer.MIN_VALUE;
    private static final int MAX = Integer.MAX_VALUE;

    public static void main(String[] args) {
        eightSingers();
        kinds0To6();
        a0To9();
        odds1To9();
        placeIsHisNumber();
        likelyFrom0To1000();
        likelyIsCut();
        likelyOfNone();
        singerOfAtTheEnds();
        most1To3();
        least1To8();
        neighbours0And1();
        ear0To50();
        asksOfNothingElse();
        mostForgets();
        lawAndEarForgetNothing();
        noWorldsOfNoSingers();
        mostBeyondTheSingers();
        worldsInOrder();
        ninetyTwoWorlds();
        worldAtTheEnds();
        worldsAsSingersCome();
        weightsAtTheEnds();
        soundsOfAllAndOfOne();
        sixteenHearings();
        sixteenHearingsInTruth();
        roomForWhatIsKnown();
        notASecondTime();
        bothSoundsOfASet();
        knownAtTheEnds();
        noOtherSounds();
        heardOfTheSets();
        forgetAll();
        nonePossible();
        DUE.end();
    }

    private static void eightSingers() {
        DUE.sentence("SINGERS have numbers, from 0 on, 8 at most");
        OnlyMovesHisLips x = new OnlyMovesHisLips();
        for (int i = 0; i < 8; i++) {
            DUE.is("status(0)", x.status(0), i);
            DUE.is("singer", x.singer(0, 0, 1), i);
        }
        DUE.is("a ninth", x.singer(0, 0, 1), -7);
        DUE.is("status(0)", x.status(0), 8);
        DUE.is("WORLDS", x.worlds(0), 8);
        DUE.is("MAY", x.may(0), 255);
    }

    private static void kinds0To6() {
        DUE.sentence("each of a KIND: 0 .. 6");
        OnlyMovesHisLips x = new OnlyMovesHisLips();
        DUE.is("KIND -1", x.singer(-1, 0, 1), -1);
        for (int kind = 0; kind <= 6; kind++) {
            DUE.is("KIND " + kind, x.singer(kind, 0, 1), kind);
            DUE.is("is it", x.singerOf(kind, 0), kind);
        }
        DUE.is("KIND 7", x.singer(7, 0, 1), -1);
        DUE.is("KIND MIN", x.singer(MIN, 0, 1), -1);
        DUE.is("KIND MAX", x.singer(MAX, 0, 1), -1);
        DUE.is("status(0)", x.status(0), 7);
    }

    private static void a0To9() {
        DUE.sentence("a (0 to 9)");
        OnlyMovesHisLips x = new OnlyMovesHisLips();
        DUE.is("a -1", x.singer(0, -1, 1), -6);
        DUE.is("a 0", x.singer(0, 0, 1), 0);
        DUE.is("a 9", x.singer(0, 9, 1), 1);
        DUE.is("a 10", x.singer(0, 10, 1), -6);
        DUE.is("of the first", x.singerOf(0, 1), 0);
        DUE.is("of the second", x.singerOf(1, 1), 9);
        DUE.is("status(0)", x.status(0), 2);
    }

    private static void odds1To9() {
        DUE.sentence("ODDS (1 to 9)");
        OnlyMovesHisLips x = new OnlyMovesHisLips();
        DUE.is("ODDS 0", x.singer(0, 0, 0), -6);
        DUE.is("ODDS 1", x.singer(0, 0, 1), 0);
        DUE.is("ODDS 9", x.singer(0, 0, 9), 1);
        DUE.is("ODDS 10", x.singer(0, 0, 10), -6);
        DUE.is("ODDS -1", x.singer(0, 0, -1), -6);
        DUE.is("of the first", x.singerOf(0, 2), 1);
        DUE.is("of the second", x.singerOf(1, 2), 9);
        DUE.is("status(0)", x.status(0), 2);
    }

    private static void placeIsHisNumber() {
        DUE.sentence("at a PLACE of the row (that of his number, when he comes)");
        OnlyMovesHisLips x = Due.choir(0, 0);
        x.swap(0, 1);
        DUE.is("the third", x.singer(0, 0, 1), 2);
        int[] places = {1, 0, 2};
        for (int i = 0; i < 3; i++) {
            DUE.is("PLACE of " + i, x.singerOf(i, 3), places[i]);
        }
    }

    private static void likelyFrom0To1000() {
        DUE.sentence("LIKELY: 1000 times the WEIGHTS of POSSIBLE ones he is wrong in, by all their WEIGHTS");
        OnlyMovesHisLips x = Due.choir(0, 0);
        DUE.is("half", x.singerOf(0, 4), 500);
        x.heard(1, 1);
        DUE.is("in all", x.singerOf(0, 4), 1000);
        DUE.is("in none", x.singerOf(1, 4), 0);
        OnlyMovesHisLips alone = new OnlyMovesHisLips();
        alone.singer(4, 0, 9);
        DUE.is("alone", alone.singerOf(0, 4), 1000);
    }

    private static void likelyIsCut() {
        DUE.sentence("LIKELY (cut)");
        OnlyMovesHisLips x = new OnlyMovesHisLips();
        x.singer(0, 0, 1);
        x.singer(0, 0, 2);
        DUE.is("333.3", x.singerOf(0, 4), 333);
        DUE.is("666.6", x.singerOf(1, 4), 666);
        for (int i = 0; i < 6; i++) {
            x.singer(0, 0, 9);
        }
        // 1 of 57 and 2 of 57
        DUE.is("17.5", x.singerOf(0, 4), 17);
        DUE.is("35.08", x.singerOf(1, 4), 35);
    }

    private static void likelyOfNone() {
        DUE.sentence("4 LIKELY (0, if none is POSSIBLE)");
        OnlyMovesHisLips x = Scenes.impossible();
        DUE.is("the first", x.singerOf(0, 4), 0);
        DUE.is("the second", x.singerOf(1, 4), 0);
        DUE.is("not refused", x.status(15), 0);
    }

    private static void singerOfAtTheEnds() {
        DUE.sentence("singerOf: -5: no such one, another what");
        OnlyMovesHisLips x = new OnlyMovesHisLips();
        x.singer(6, 8, 7);
        x.singer(5, 4, 3);
        DUE.is("singerOf(-1, 0)", x.singerOf(-1, 0), -5);
        DUE.is("singerOf(0, 0)", x.singerOf(0, 0), 6);
        DUE.is("singerOf(1, 0)", x.singerOf(1, 0), 5);
        DUE.is("singerOf(2, 0)", x.singerOf(2, 0), -5);
        DUE.is("singerOf(1, -1)", x.singerOf(1, -1), -5);
        DUE.is("singerOf(1, 4)", x.singerOf(1, 4), 300);
        DUE.is("singerOf(1, 5)", x.singerOf(1, 5), -5);
        DUE.is("singerOf(MAX, 0)", x.singerOf(MAX, 0), -5);
        DUE.is("singerOf(MIN, 0)", x.singerOf(MIN, 0), -5);
    }

    private static void bounds(int what, int fewest, int greatest, int first) {
        OnlyMovesHisLips x = new OnlyMovesHisLips();
        DUE.is("below, at first", x.ask(what, fewest - 1), -6);
        DUE.is("beyond, at first", x.ask(what, greatest + 1), -6);
        DUE.is("is still", x.status(1 + what), first);
        DUE.is("the fewest", x.ask(what, fewest), first);
        DUE.is("is it", x.status(1 + what), fewest);
        DUE.is("below", x.ask(what, fewest - 1), -6);
        DUE.is("the greatest", x.ask(what, greatest), fewest);
        DUE.is("is it", x.status(1 + what), greatest);
        DUE.is("beyond", x.ask(what, greatest + 1), -6);
        DUE.is("far below", x.ask(what, MIN), -6);
        DUE.is("far beyond", x.ask(what, MAX), -6);
        DUE.is("is it still", x.ask(what, greatest), greatest);
        for (int other = 0; other < 4; other++) {
            if (other != what) {
                DUE.is("another stays", x.status(1 + other), other < 2 ? 1 : 0);
            }
        }
    }

    private static void most1To3() {
        DUE.sentence("MOST (1 to 3; 1 at first)");
        bounds(0, 1, 3, 1);
    }

    private static void least1To8() {
        DUE.sentence("LEAST (1 to 8; 1 at first)");
        bounds(1, 1, 8, 1);
    }

    private static void neighbours0And1() {
        DUE.sentence("NEIGHBOURS (0, 1; 0 at first)");
        bounds(2, 0, 1, 0);
    }

    private static void ear0To50() {
        DUE.sentence("EAR (0 to 50; 0 at first)");
        bounds(3, 0, 50, 0);
    }

    private static void asksOfNothingElse() {
        DUE.sentence("ask: MOST (what 0), LEAST (1), NEIGHBOURS (2), EAR (3); -6");
        OnlyMovesHisLips x = new OnlyMovesHisLips();
        DUE.is("ask(-1, 1)", x.ask(-1, 1), -6);
        DUE.is("ask(4, 1)", x.ask(4, 1), -6);
        DUE.is("ask(MAX, 1)", x.ask(MAX, 1), -6);
        DUE.is("ask(MIN, 1)", x.ask(MIN, 1), -6);
        DUE.is("status(16)", x.status(16), 4);
    }

    private static OnlyMovesHisLips heardOnce() {
        OnlyMovesHisLips x = Due.choir(0, 0, 0);
        x.isTrue(4);
        x.hear(4);
        return x;
    }

    private static void mostForgets() {
        DUE.sentence("whenever SINGERS, MOST (also to what it was) or PLACES change it is the first, and no HEARINGS are KNOWN");
        OnlyMovesHisLips x = heardOnce();
        DUE.is("MOST to what it was", x.ask(0, 1), 1);
        DUE.is("TRUE", x.status(6), 1);
        DUE.is("KNOWN", x.status(5), 0);
        DUE.is("POSSIBLE", x.worlds(1), 3);
        x = heardOnce();
        x.ask(0, 2);
        DUE.is("MOST to another: TRUE", x.status(6), 1);
        DUE.is("KNOWN", x.status(5), 0);
        DUE.is("POSSIBLE", x.worlds(1), 6);
        x = heardOnce();
        x.singer(0, 0, 1);
        DUE.is("SINGERS: TRUE", x.status(6), 1);
        DUE.is("KNOWN", x.status(5), 0);
        DUE.is("POSSIBLE", x.worlds(1), 4);
        x = heardOnce();
        x.swap(0, 1);
        DUE.is("PLACES: TRUE", x.status(6), 1);
        DUE.is("KNOWN", x.status(5), 0);
        DUE.is("POSSIBLE", x.worlds(1), 3);
    }

    private static void lawAndEarForgetNothing() {
        DUE.sentence("LEAST, NEIGHBOURS and EAR change without HEARINGS being forgotten");
        for (int what = 1; what <= 3; what++) {
            OnlyMovesHisLips x = heardOnce();
            x.ask(what, 1);
            x.ask(what, what == 1 ? 8 : 0);
            DUE.is("TRUE", x.status(6), 4);
            DUE.is("KNOWN", x.known(0), 9);
            DUE.is("POSSIBLE", x.worlds(1), 1);
        }
    }

    private static void noWorldsOfNoSingers() {
        DUE.sentence("WORLDS: all sets of SINGERS of 1 to MOST: none of no SINGERS");
        OnlyMovesHisLips x = new OnlyMovesHisLips();
        for (int most = 1; most <= 3; most++) {
            x.ask(0, most);
            DUE.is("WORLDS", x.worlds(0), 0);
            DUE.is("POSSIBLE", x.worlds(1), 0);
            DUE.is("the first", x.world(0), -5);
            DUE.is("TRUE", x.status(6), 0);
        }
    }

    private static void mostBeyondTheSingers() {
        DUE.sentence("WORLDS: MOST beyond the SINGERS there are");
        OnlyMovesHisLips x = Due.choir(0);
        x.ask(0, 3);
        DUE.is("of one SINGER", x.worlds(0), 1);
        x.singer(0, 0, 1);
        DUE.is("of two SINGERS", x.worlds(0), 3);
        int[] two = {1, 2, 3};
        for (int i = 0; i < 3; i++) {
            DUE.is("world(" + i + ")", x.world(i), two[i]);
        }
        x.singer(0, 0, 1);
        DUE.is("of three SINGERS", x.worlds(0), 7);
        DUE.is("the last", x.world(6), 7);
    }

    private static void worldsInOrder() {
        DUE.sentence("WORLDS: the fewest first, then by bits");
        OnlyMovesHisLips x = Due.choir(0, 0, 0, 0, 0);
        x.ask(0, 3);
        int[] order = {1, 2, 4, 8, 16, 3, 5, 6, 9, 10, 12, 17, 18, 20, 24, 7, 11, 13, 14, 19, 21, 22, 25, 26, 28};
        DUE.is("how many", x.worlds(0), order.length);
        for (int i = 0; i < order.length; i++) {
            DUE.is("world(" + i + ")", x.world(i), order[i]);
        }
        x.ask(0, 2);
        DUE.is("MOST 2: the last", x.world(14), 24);
        DUE.is("MOST 2: no more", x.world(15), -5);
        x.ask(0, 1);
        DUE.is("MOST 1: the last", x.world(4), 16);
        DUE.is("MOST 1: no more", x.world(5), -5);
    }

    private static void ninetyTwoWorlds() {
        DUE.sentence("WORLDS of 8 SINGERS and MOST 3");
        OnlyMovesHisLips x = Scenes.full();
        x.ask(0, 3);
        DUE.is("how many", x.worlds(0), 92);
        DUE.is("the first", x.world(0), 1);
        DUE.is("the last alone", x.world(7), 128);
        DUE.is("the first two", x.world(8), 3);
        DUE.is("the last two", x.world(35), 192);
        DUE.is("the first three", x.world(36), 7);
        DUE.is("the last three", x.world(91), 224);
        DUE.is("no more", x.world(92), -5);
        int sum = 0;
        for (int i = 1; i < 92; i++) {
            int many = Integer.compare(Integer.bitCount(x.world(i - 1)), Integer.bitCount(x.world(i)));
            sum += many < 0 || many == 0 && x.world(i - 1) < x.world(i) ? 1 : 0;
        }
        DUE.is("each behind the one ahead of it", sum, 91);
    }

    private static void worldAtTheEnds() {
        DUE.sentence("world: The i-th POSSIBLE WORLD. -5");
        OnlyMovesHisLips x = Due.choir(0, 0, 0);
        x.heard(2, 0);
        DUE.is("world(-1)", x.world(-1), -5);
        DUE.is("world(0)", x.world(0), 1);
        DUE.is("world(1)", x.world(1), 4);
        DUE.is("world(2)", x.world(2), -5);
        DUE.is("world(MAX)", x.world(MAX), -5);
        DUE.is("world(MIN)", x.world(MIN), -5);
    }

    private static void worldsAsSingersCome() {
        DUE.sentence("WORLDS: as SINGERS come and MOST changes: those there were ahead count no more");
        OnlyMovesHisLips x = new OnlyMovesHisLips();
        x.ask(0, 3);
        for (int n = 1; n <= 8; n++) {
            x.singer(0, 0, 1);
            int last = 1 << n - 1;
            int sum = 0;
            for (int world = 1; world < 1 << n; world++) {
                if (Integer.bitCount(world) <= 2 && n < 6) {
                    sum += x.sounds(1, world) == (world & 1) && x.sounds(last, world) == world >> n - 1 ? 0 : 1;
                }
            }
            DUE.is("of " + n + ": sound otherwise", sum, 0);
            DUE.is("of " + n + ": by the first", x.parts(1, 0), 1 + n - 1 + (n - 1) * (n - 2) / 2);
            DUE.is("of " + n + ": by the last", x.parts(last, 0), 1 + n - 1 + (n - 1) * (n - 2) / 2);
        }
        x.ask(0, 2);
        DUE.is("MOST 2: by the last", x.parts(128, 0), 8);
        x.ask(0, 1);
        DUE.is("MOST 1: by the last", x.parts(128, 0), 1);
        x.ask(0, 3);
        DUE.is("MOST 3: by the last", x.parts(128, 0), 29);
    }

    private static void weightsAtTheEnds() {
        DUE.sentence("WEIGHT of a WORLD: the product of the ODDS of all in it");
        OnlyMovesHisLips x = new OnlyMovesHisLips();
        for (int i = 0; i < 8; i++) {
            x.singer(0, 0, 9);
        }
        x.ask(0, 3);
        // 8 of 9, 28 of 81, 56 of 729: 43164 in all; of each SINGER 9 + 7 * 81 + 21 * 729 = 15885
        DUE.is("all of 9", x.singerOf(7, 4), 368);
        OnlyMovesHisLips y = new OnlyMovesHisLips();
        y.singer(0, 0, 9);
        y.singer(0, 0, 9);
        y.singer(0, 0, 1);
        y.ask(0, 3);
        // 9, 9, 1, 81, 9, 9, 81: the last weighs as much as 3, which is ahead of it
        DUE.is("LIKELIEST", y.likeliest(), 3);
        DUE.is("9 + 81 + 9 + 81 of 199", y.singerOf(0, 4), 904);
        DUE.is("1 + 9 + 9 + 81 of 199", y.singerOf(2, 4), 502);
    }

    private static void soundsOfAllAndOfOne() {
        DUE.sentence("sounds: -6 an empty set, others than there are, no WORLD");
        OnlyMovesHisLips x = Scenes.full();
        DUE.is("all", x.sounds(255, 128), 1);
        DUE.is("all and another", x.sounds(256 + 255, 128), -6);
        DUE.is("another alone", x.sounds(256, 128), -6);
        DUE.is("the last alone", x.sounds(128, 128), 1);
        DUE.is("all but the last", x.sounds(127, 128), 0);
        DUE.is("the first alone", x.sounds(1, 1), 1);
        DUE.is("nobody", x.sounds(0, 1), -6);
        DUE.is("the last WORLD", x.sounds(1, 128), 0);
        DUE.is("beyond it", x.sounds(1, 256), -6);
        DUE.is("a pair, MOST 1", x.sounds(1, 3), -6);
        x.ask(0, 2);
        DUE.is("a pair, MOST 2", x.sounds(1, 3), 1);
        DUE.is("three, MOST 2", x.sounds(1, 7), -6);
        x.ask(0, 3);
        DUE.is("three, MOST 3", x.sounds(1, 7), 1);
        DUE.is("four", x.sounds(1, 15), -6);
    }

    private static void sixteenHearings() {
        DUE.sentence("HEARINGS: 16 at most");
        OnlyMovesHisLips x = Scenes.full();
        for (int set = 1; set <= 15; set++) {
            DUE.is("heard", x.heard(set, set & 1), 1);
        }
        DUE.is("15 are KNOWN", x.known(-1), 15);
        DUE.is("the 16th", x.heard(31, 1), 1);
        DUE.is("16 are KNOWN", x.known(-1), 16);
        DUE.is("the 17th", x.heard(33, 1), -7);
        DUE.is("still 16", x.known(-1), 16);
        DUE.is("the last", x.known(15), 63);
        DUE.is("all are forgotten", x.forget(), 16);
        DUE.is("the first again", x.heard(33, 1), 2);
    }

    private static void sixteenHearingsInTruth() {
        DUE.sentence("hear: -7 no room for another");
        OnlyMovesHisLips x = Scenes.full();
        for (int set = 1; set <= 15; set++) {
            x.hear(set);
        }
        DUE.is("the 16th", x.hear(32), 0);
        DUE.is("the 17th", x.hear(33), -7);
        DUE.is("16 are KNOWN", x.known(-1), 16);
        DUE.is("the last", x.known(15), 64);
    }

    private static void roomForWhatIsKnown() {
        DUE.sentence("heard() and hear() want no room for one that is KNOWN");
        OnlyMovesHisLips x = Scenes.sixteen();
        for (int set = 1; set <= 16; set++) {
            DUE.is("heard(" + set + ")", x.heard(set, set & 1), 1);
            DUE.is("hear(" + set + ")", x.hear(set), set & 1);
        }
        DUE.is("16 are KNOWN", x.known(-1), 16);
        DUE.is("nothing refused", x.status(17), 0);
    }

    private static void notASecondTime() {
        DUE.sentence("(one that is KNOWN already isn't a second time)");
        OnlyMovesHisLips x = Due.choir(0, 0, 0);
        DUE.is("heard(4, 0)", x.heard(4, 0), 2);
        DUE.is("heard(3, 1)", x.heard(3, 1), 2);
        DUE.is("heard(4, 0) again", x.heard(4, 0), 2);
        DUE.is("hear(4)", x.hear(4), 0);
        DUE.is("two are KNOWN", x.known(-1), 2);
        DUE.is("in order", x.known(0), 8);
        DUE.is("the second", x.known(1), 7);
    }

    private static void bothSoundsOfASet() {
        DUE.sentence("HEARINGS are KNOWN: a set and how it sounded: one that sounded otherwise is another");
        OnlyMovesHisLips x = Due.choir(0, 0);
        x.heard(1, 0);
        DUE.is("hear(1)", x.hear(1), 1);
        DUE.is("both are KNOWN", x.known(-1), 2);
        DUE.is("the first", x.known(0), 2);
        DUE.is("the second", x.known(1), 3);
    }

    private static void knownAtTheEnds() {
        DUE.sentence("known: how many (i NONE), the i-th as 2 times the set and the sound. -5");
        OnlyMovesHisLips x = Scenes.full();
        DUE.is("known(NONE) of none", x.known(-1), 0);
        DUE.is("known(0) of none", x.known(0), -5);
        x.heard(255, 1);
        DUE.is("known(0) of one", x.known(0), 511);
        DUE.is("known(1) of one", x.known(1), -5);
        DUE.is("known(-2)", x.known(-2), -5);
        DUE.is("known(MIN)", x.known(MIN), -5);
        DUE.is("known(MAX)", x.known(MAX), -5);
        x = Scenes.sixteen();
        DUE.is("known(15) of 16", x.known(15), 32);
        DUE.is("known(16) of 16", x.known(16), -5);
    }

    private static void noOtherSounds() {
        DUE.sentence("heard: -6 .. a sound not 0, 1");
        OnlyMovesHisLips x = Due.choir(0, 0);
        for (int sound : new int[] {-1, 2, 3, MIN, MAX}) {
            DUE.is("heard(1, " + sound + ")", x.heard(1, sound), -6);
        }
        DUE.is("none is KNOWN", x.known(-1), 0);
        DUE.is("heard(1, 0)", x.heard(1, 0), 1);
        x.forget();
        DUE.is("heard(1, 1)", x.heard(1, 1), 1);
    }

    private static void heardOfTheSets() {
        DUE.sentence("heard: -6 an empty set, others than there are");
        OnlyMovesHisLips x = Due.choir(0, 0, 0);
        DUE.is("nobody", x.heard(0, 0), -6);
        DUE.is("the first", x.heard(1, 0), 2);
        DUE.is("all", x.heard(7, 1), 2);
        DUE.is("others", x.heard(8, 0), -6);
        DUE.is("others too", x.heard(15, 1), -6);
        DUE.is("below", x.heard(-1, 1), -6);
        DUE.is("MIN", x.heard(MIN, 0), -6);
        DUE.is("two are KNOWN", x.known(-1), 2);
    }

    private static void forgetAll() {
        DUE.sentence("forget: None are KNOWN any more: how many were");
        OnlyMovesHisLips x = Scenes.sixteen();
        x.isTrue(16);
        DUE.is("isTrue() forgot", x.forget(), 0);
        x = Scenes.sixteen();
        DUE.is("16 were", x.forget(), 16);
        DUE.is("none were", x.forget(), 0);
        DUE.is("all POSSIBLE", x.worlds(1), 5);
        x = new OnlyMovesHisLips();
        DUE.is("a new object", x.forget(), 0);
    }

    private static void nonePossible() {
        DUE.sentence("POSSIBLE: WORLDS that sound as all HEARINGS that are KNOWN. (There may be none.)");
        OnlyMovesHisLips x = Scenes.impossible();
        DUE.is("WORLDS", x.worlds(0), 2);
        DUE.is("POSSIBLE", x.worlds(1), 0);
        DUE.is("the first", x.world(0), -5);
        DUE.is("a third", x.hear(3), 1);
        DUE.is("is KNOWN", x.known(2), 7);
        DUE.is("forget()", x.forget(), 3);
        DUE.is("POSSIBLE again", x.worlds(1), 2);
    }
}
