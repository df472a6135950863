/** Promises 14 to 19: WORLDS, how sets sound in them, HEARINGS that are KNOWN. */
public final class WorldsTest {
    private static final Due DUE = new Due("WorldsTest");

    public static void main(String[] args) {
        worlds();
        world();
        howASingerSounds();
        howALeanerSounds();
        howAProudOneSounds();
        howAHiderSounds();
        howAShadowSounds();
        howMuteOnesSound();
        soundsIsRefused();
        heard();
        heardIsRefused();
        known();
        forget();
        DUE.end();
    }

    private static void worlds() {
        OnlyMovesHisLips x = new OnlyMovesHisLips();
        int[][] many = {{0, 0, 0}, {1, 1, 1}, {2, 3, 3}, {3, 6, 7}, {4, 10, 14}, {5, 15, 25}, {6, 21, 41}, {7, 28, 63}, {8, 36, 92}};
        for (int n = 0; n <= 8; n++) {
            for (int most = 1; most <= 3; most++) {
                x.ask(0, most);
                DUE.is(n + " SINGERS, MOST " + most, x.worlds(0), many[n][most - 1]);
                DUE.is(n + " SINGERS, MOST " + most + ", POSSIBLE", x.worlds(1), many[n][most - 1]);
            }
            x.singer(0, 0, 1);
        }
        DUE.is("another what", x.worlds(2), -5);
        DUE.is("another what below", x.worlds(-1), -5);
        x.heard(1, 1);
        DUE.is("POSSIBLE", x.worlds(1), 1 + 7 + 21);
        DUE.is("of all", x.worlds(0), 92);
        DUE.is("status(15)", x.status(15), 2);
    }

    private static void world() {
        OnlyMovesHisLips x = Due.choir(0, 0, 0, 0);
        x.ask(0, 3);
        int[] order = {1, 2, 4, 8, 3, 5, 6, 9, 10, 12, 7, 11, 13, 14};
        for (int i = 0; i < order.length; i++) {
            DUE.is("world(" + i + ")", x.world(i), order[i]);
        }
        DUE.is("beyond", x.world(14), -5);
        DUE.is("below", x.world(-1), -5);
        DUE.is("far beyond", x.world(Integer.MAX_VALUE), -5);
        x.heard(2, 1);
        int[] left = {2, 3, 6, 10, 7, 11, 14};
        for (int i = 0; i < left.length; i++) {
            DUE.is("POSSIBLE world(" + i + ")", x.world(i), left[i]);
        }
        DUE.is("beyond the POSSIBLE", x.world(7), -5);
        OnlyMovesHisLips many = Due.choir(0, 0, 0, 0, 0, 0, 0, 0);
        many.ask(0, 3);
        // 8 alone, 28 pairs, 20 threes of the first six: then those of the seventh, by the pairs 3, 5, 6, 9, 10, 12, 17, 18
        DUE.is("world(63)", many.world(63), 64 + 18);
        DUE.is("world(64)", many.world(64), 64 + 20);
        DUE.is("world(91)", many.world(91), 128 + 64 + 32);
        many.heard(128, 1);
        DUE.is("the last POSSIBLE", many.world(28), 128 + 64 + 32);
        many.heard(1, 0);
        DUE.is("the first POSSIBLE", many.world(0), 128);
        DUE.is("POSSIBLE", many.worlds(1), 1 + 6 + 15);
    }

    private static void sounds(OnlyMovesHisLips x, int set, int world, int sound) {
        DUE.is("sounds(" + set + ", " + world + ")", x.sounds(set, world), sound);
    }

    private static void howASingerSounds() {
        OnlyMovesHisLips x = Due.choir(0, 0);
        sounds(x, 1, 1, 1);
        sounds(x, 3, 1, 1);
        sounds(x, 2, 1, 0);
        sounds(x, 1, 2, 0);
        sounds(x, 3, 2, 1);
    }

    private static void howALeanerSounds() {
        OnlyMovesHisLips x = Due.choir(4, 1, 4);
        x.ask(0, 3);
        sounds(x, 2, 2, 1);
        sounds(x, 3, 2, 0);
        sounds(x, 6, 2, 1);
        sounds(x, 7, 2, 0);
        sounds(x, 3, 3, 1);
        sounds(x, 7, 6, 0);
        sounds(x, 7, 7, 1);
        x.swap(0, 1);
        // the row: 1 0 2
        sounds(x, 2, 2, 1);
        sounds(x, 3, 2, 1);
        sounds(x, 7, 2, 1);
        x.swap(1, 2);
        // the row: 2 0 1
        sounds(x, 3, 2, 0);
        sounds(x, 6, 2, 1);
    }

    private static void howAProudOneSounds() {
        OnlyMovesHisLips x = Due.choir(4, 3, 4);
        x.ask(0, 3);
        sounds(x, 2, 2, 1);
        sounds(x, 3, 2, 0);
        sounds(x, 6, 2, 0);
        sounds(x, 7, 2, 0);
        sounds(x, 3, 3, 1);
        sounds(x, 6, 6, 1);
        sounds(x, 7, 3, 0);
        sounds(x, 7, 6, 0);
        sounds(x, 7, 7, 1);
        x.swap(0, 1);
        // the row: 1 0 2
        sounds(x, 6, 2, 1);
        sounds(x, 3, 2, 0);
        sounds(x, 7, 3, 1);
        x.swap(1, 2);
        // the row: 2 0 1
        sounds(x, 6, 2, 1);
        sounds(x, 3, 2, 0);
    }

    private static void howAHiderSounds() {
        for (int a = 0; a <= 9; a++) {
            OnlyMovesHisLips x = new OnlyMovesHisLips();
            x.singer(2, a, 1);
            for (int i = 1; i < 8; i++) {
                x.singer(4, 0, 1);
            }
            for (int many = 1; many <= 8; many++) {
                sounds(x, (1 << many) - 1, 1, many <= a + 1 ? 0 : 1);
            }
        }
    }

    private static void howAShadowSounds() {
        OnlyMovesHisLips x = Due.choir(4, 5, 4);
        sounds(x, 2, 2, 0);
        sounds(x, 3, 2, 1);
        sounds(x, 6, 2, 1);
        x.swap(0, 1);
        sounds(x, 3, 2, 0);
        sounds(x, 7, 2, 0);
        x.swap(1, 2);
        sounds(x, 3, 2, 0);
        sounds(x, 7, 2, 0);
        x.singer(4, 0, 1);
        sounds(x, 3, 2, 1);
        OnlyMovesHisLips alone = Due.choir(5);
        sounds(alone, 1, 1, 0);
        OnlyMovesHisLips more = new OnlyMovesHisLips();
        more.singer(4, 0, 1);
        more.singer(5, 1, 1);
        more.singer(4, 0, 1);
        sounds(more, 3, 2, 0);
        sounds(more, 7, 2, 1);
    }

    private static void howMuteOnesSound() {
        OnlyMovesHisLips x = Due.choir(4, 6, 4);
        for (int set = 1; set < 8; set++) {
            sounds(x, set, 1, 0);
            sounds(x, set, 2, set == 7 ? 1 : 0);
        }
        OnlyMovesHisLips alone = Due.choir(6);
        sounds(alone, 1, 1, 1);
    }

    private static void soundsIsRefused() {
        OnlyMovesHisLips x = Due.choir(0, 0, 0);
        sounds(x, 0, 1, -6);
        sounds(x, 8, 1, -6);
        sounds(x, 9, 1, -6);
        sounds(x, -1, 1, -6);
        sounds(x, Integer.MIN_VALUE, 1, -6);
        sounds(x, 1, 0, -6);
        sounds(x, 1, 3, -6);
        sounds(x, 1, 8, -6);
        sounds(x, 1, -1, -6);
        DUE.is("status(16)", x.status(16), 9);
        x.ask(0, 2);
        sounds(x, 1, 3, 1);
        sounds(x, 1, 7, -6);
    }

    private static void heard() {
        OnlyMovesHisLips x = Due.choir(0, 0, 0);
        DUE.is("heard(1, 0)", x.heard(1, 0), 2);
        DUE.is("again", x.heard(1, 0), 2);
        DUE.is("KNOWN once", x.known(-1), 1);
        DUE.is("heard(6, 1)", x.heard(6, 1), 2);
        DUE.is("heard(2, 1)", x.heard(2, 1), 1);
        DUE.is("KNOWN", x.known(-1), 3);
        DUE.is("TRUE stays", x.status(6), 1);
        x.ask(1, 3);
        DUE.is("one that isn't LAWFUL", x.heard(4, 0), 1);
    }

    private static void heardIsRefused() {
        OnlyMovesHisLips x = Due.choir(0, 0, 0, 0, 0, 0, 0, 0);
        DUE.is("an empty set", x.heard(0, 0), -6);
        DUE.is("others than there are", x.heard(256, 1), -6);
        DUE.is("a set below", x.heard(-1, 1), -6);
        DUE.is("a sound", x.heard(1, 2), -6);
        DUE.is("a sound below", x.heard(1, -1), -6);
        DUE.is("no such sound", x.heard(255, 0), -6);
        for (int set = 1; set <= 16; set++) {
            DUE.is("heard " + set, x.heard(set, set & 1), 1);
        }
        DUE.is("no room", x.heard(17, 1), -7);
        DUE.is("no such sound, ahead of no room", x.heard(17, 0), -6);
        DUE.is("what is KNOWN wants none", x.heard(16, 0), 1);
        DUE.is("KNOWN", x.known(-1), 16);
        DUE.is("status(16)", x.status(16), 7);
        DUE.is("status(17)", x.status(17), 1);
        x.forget();
        x.isTrue(2);
        x.heard(1, 1);
        x.hear(1);
        DUE.is("none POSSIBLE: one that is KNOWN", x.heard(1, 1), -6);
        DUE.is("none POSSIBLE: another", x.heard(3, 1), -6);
    }

    private static void known() {
        OnlyMovesHisLips x = Due.choir(0, 0, 0);
        DUE.is("none", x.known(-1), 0);
        DUE.is("no first", x.known(0), -5);
        x.heard(3, 1);
        x.heard(4, 0);
        x.heard(7, 1);
        DUE.is("how many", x.known(-1), 3);
        DUE.is("first", x.known(0), 7);
        DUE.is("second", x.known(1), 8);
        DUE.is("third", x.known(2), 15);
        DUE.is("beyond", x.known(3), -5);
        DUE.is("below", x.known(-2), -5);
        DUE.is("status(15)", x.status(15), 3);
        DUE.is("status(5)", x.status(5), 3);
    }

    private static void forget() {
        OnlyMovesHisLips x = Due.choir(0, 0, 0);
        x.isTrue(4);
        x.hear(1);
        x.hear(2);
        DUE.is("two were", x.forget(), 2);
        DUE.is("none are", x.known(-1), 0);
        DUE.is("all POSSIBLE", x.worlds(1), 3);
        DUE.is("TRUE stays", x.status(6), 4);
        DUE.is("none were", x.forget(), 0);
    }
}
