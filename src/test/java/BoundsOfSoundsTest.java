/** Each sentence that names a bound of how a set sounds, and of which sets are LAWFUL (promises 16 and 22). */
public final class BoundsOfSoundsTest {
    private static final Due DUE = new Due("BoundsOfSoundsTest");

    public static void main(String[] args) {
        oneWhoIsHeardIsEnough();
        onlyThoseWhoSing();
        leanerFirstInTheRow();
        leanerBesideTheEnd();
        leanerBehindOneWhoIsWrong();
        leanerBehindOneWhoDoesNotSing();
        leanersOfEight();
        leanerWithAGap();
        proudAtBothEnds();
        proudWithOneWhoIsRight();
        proudBetweenTwoWhoAreWrong();
        proudAlone();
        hiderByA();
        hiderWhoNeverCanBeHeard();
        shadowByA();
        shadowAtTheEnds();
        shadowOfTwo();
        shadowWhoseEndMoves();
        muteOfAll();
        deafOfAllAndOfAllButOne();
        deafAlone();
        deafWhenOneComes();
        theEmptySetIsNotLawful();
        leastJustMet();
        leastOfAll();
        neighboursWithoutAGap();
        neighboursAreNoCircle();
        neighboursByPlaces();
        bothLaws();
        DUE.end();
    }

    private static void sounds(OnlyMovesHisLips x, int set, int world, int sound) {
        DUE.is("sounds(" + set + ", " + world + ")", x.sounds(set, world), sound);
    }

    private static OnlyMovesHisLips three(int... kinds) {
        OnlyMovesHisLips x = Due.choir(kinds);
        x.ask(0, 3);
        return x;
    }

    private static void oneWhoIsHeardIsEnough() {
        DUE.sentence("wrong, if one of the wrong ones in the set is HEARD");
        OnlyMovesHisLips x = three(4, 0, 4);
        sounds(x, 7, 7, 1);
        sounds(x, 3, 3, 1);
        sounds(x, 5, 7, 0);
        sounds(x, 5, 5, 0);
        sounds(x, 7, 5, 0);
    }

    private static void onlyThoseWhoSing() {
        DUE.sentence("one of the wrong ones in the set");
        OnlyMovesHisLips x = three(0, 0, 0);
        sounds(x, 1, 6, 0);
        sounds(x, 1, 7, 1);
        sounds(x, 6, 1, 0);
        sounds(x, 4, 4, 1);
    }

    private static void leanerFirstInTheRow() {
        DUE.sentence("LEANER: not, if he who stands at the PLACE just ahead sings too and isn't wrong: nobody is ahead of the first");
        OnlyMovesHisLips x = three(1, 0, 0);
        sounds(x, 1, 1, 1);
        sounds(x, 3, 1, 1);
        sounds(x, 5, 1, 1);
        sounds(x, 7, 1, 1);
    }

    private static void leanerBesideTheEnd() {
        DUE.sentence("LEANER: nobody just behind him counts");
        OnlyMovesHisLips x = three(0, 1, 0);
        sounds(x, 6, 2, 1);
        sounds(x, 3, 2, 0);
        OnlyMovesHisLips last = Due.choir(0, 0, 0, 0, 0, 0, 0, 1);
        sounds(last, 192, 128, 0);
        sounds(last, 129, 128, 1);
        sounds(last, 128, 128, 1);
    }

    private static void leanerBehindOneWhoIsWrong() {
        DUE.sentence("LEANER: .. and isn't wrong");
        OnlyMovesHisLips x = three(4, 1, 1);
        sounds(x, 3, 3, 1);
        sounds(x, 3, 2, 0);
        // 1 leans on 0, who is right; 2 on 1, who is wrong
        sounds(x, 7, 6, 1);
        sounds(x, 7, 4, 0);
    }

    private static void leanerBehindOneWhoDoesNotSing() {
        DUE.sentence("LEANER: .. sings too");
        OnlyMovesHisLips x = three(0, 1, 0);
        sounds(x, 2, 2, 1);
        sounds(x, 6, 2, 1);
        sounds(x, 7, 2, 0);
    }

    private static void leanersOfEight() {
        DUE.sentence("LEANER: in the last of 92 WORLDS");
        OnlyMovesHisLips x = three(1, 1, 1, 1, 1, 1, 1, 1);
        // 7 leans on 6; 6 on 5, who doesn't sing
        sounds(x, 192, 128 + 16 + 4, 0);
        sounds(x, 192, 128 + 32 + 16, 0);
        sounds(x, 192, 224, 1);
        sounds(x, 128 + 32, 128 + 16 + 4, 1);
        // 0 stands first, 1 leans on 0
        sounds(x, 255, 128 + 32 + 8, 0);
        sounds(x, 255, 128 + 32 + 1, 1);
        sounds(x, 254, 128 + 32 + 1, 0);
        sounds(x, 255, 224, 1);
    }

    private static void leanerWithAGap() {
        DUE.sentence("LEANER: .. at the PLACE just ahead");
        OnlyMovesHisLips x = three(0, 0, 1);
        sounds(x, 5, 4, 1);
        sounds(x, 6, 4, 0);
        x.swap(0, 1);
        // the row: 1 0 2
        sounds(x, 5, 4, 0);
        sounds(x, 6, 4, 1);
    }

    private static void proudAtBothEnds() {
        DUE.sentence("PROUD: not, if he or the one just behind does so: nobody is ahead of the first or behind the last");
        OnlyMovesHisLips x = three(3, 0, 0);
        sounds(x, 1, 1, 1);
        sounds(x, 3, 1, 0);
        sounds(x, 5, 1, 1);
        x.swap(0, 2);
        // the row: 2 1 0
        sounds(x, 1, 1, 1);
        sounds(x, 3, 1, 0);
        sounds(x, 5, 1, 1);
        OnlyMovesHisLips two = Due.choir(3, 0);
        sounds(two, 3, 1, 0);
        two.swap(0, 1);
        sounds(two, 3, 1, 0);
    }

    private static void proudWithOneWhoIsRight() {
        DUE.sentence("PROUD: .. he or the one just behind");
        OnlyMovesHisLips x = three(4, 3, 4);
        sounds(x, 7, 2, 0);
        sounds(x, 7, 3, 0);
        sounds(x, 7, 6, 0);
        sounds(x, 3, 2, 0);
        sounds(x, 6, 2, 0);
    }

    private static void proudBetweenTwoWhoAreWrong() {
        DUE.sentence("PROUD: .. and isn't wrong, both");
        OnlyMovesHisLips x = three(4, 3, 4);
        sounds(x, 7, 7, 1);
        sounds(x, 3, 3, 1);
        sounds(x, 6, 6, 1);
        sounds(x, 3, 6, 0);
        sounds(x, 6, 3, 0);
    }

    private static void proudAlone() {
        DUE.sentence("PROUD: .. sings too");
        OnlyMovesHisLips x = three(0, 3, 0);
        sounds(x, 2, 2, 1);
        sounds(Due.choir(3), 1, 1, 1);
        OnlyMovesHisLips far = Due.choir(3, 4, 0);
        sounds(far, 5, 1, 1);
    }

    private static OnlyMovesHisLips amongMutes(int kind, int a, int place, int singers) {
        OnlyMovesHisLips x = new OnlyMovesHisLips();
        x.singer(kind, a, 1);
        for (int i = 1; i < singers; i++) {
            x.singer(4, 0, 1);
        }
        if (place != 0) {
            x.swap(0, place);
        }
        return x;
    }

    private static void hiderByA() {
        DUE.sentence("HIDER: not, if a and 1 or fewer sing");
        for (int a = 0; a <= 6; a++) {
            OnlyMovesHisLips x = amongMutes(2, a, 0, 8);
            // as many lowest bits as sing
            sounds(x, (1 << a + 1) - 1, 1, 0);
            sounds(x, (1 << a + 2) - 1, 1, 1);
        }
    }

    private static void hiderWhoNeverCanBeHeard() {
        DUE.sentence("HIDER: an a of 7 to 9 hides him among all");
        for (int a = 7; a <= 9; a++) {
            sounds(amongMutes(2, a, 0, 8), 255, 1, 0);
        }
        sounds(Due.choir(2), 1, 1, 0);
    }

    private static void shadowByA() {
        DUE.sentence("SHADOW: not, if so");
        for (int a = 0; a <= 6; a++) {
            OnlyMovesHisLips x = amongMutes(5, a, 3, 8);
            sounds(x, (1 << a + 1) - 1, 1, 0);
            sounds(x, (1 << a + 2) - 1, 1, 1);
        }
        sounds(amongMutes(5, 7, 3, 8), 255, 1, 0);
    }

    private static void shadowAtTheEnds() {
        DUE.sentence("SHADOW: .. nor if he stands at one end of the row");
        for (int singers = 3; singers <= 8; singers++) {
            for (int place = 0; place < singers; place++) {
                boolean atEnd = place == 0 || place == singers - 1;
                sounds(amongMutes(5, 0, place, singers), (1 << singers) - 1, 1, atEnd ? 0 : 1);
            }
        }
    }

    private static void shadowOfTwo() {
        DUE.sentence("SHADOW: in a row of one or two all stand at an end");
        sounds(Due.choir(5), 1, 1, 0);
        sounds(Due.choir(5, 4), 3, 1, 0);
        sounds(Due.choir(4, 5), 3, 2, 0);
    }

    private static void shadowWhoseEndMoves() {
        DUE.sentence("SHADOW: the end of the row is behind who came last");
        OnlyMovesHisLips x = Due.choir(4, 4, 5);
        sounds(x, 7, 4, 0);
        x.singer(4, 0, 1);
        sounds(x, 7, 4, 1);
    }

    private static void muteOfAll() {
        DUE.sentence("MUTE: never");
        OnlyMovesHisLips x = three(4, 4, 4);
        for (int set = 1; set < 8; set++) {
            for (int world = 1; world < 8; world++) {
                sounds(x, set, world, 0);
            }
        }
        sounds(Due.choir(4), 1, 1, 0);
    }

    private static void deafOfAllAndOfAllButOne() {
        DUE.sentence("DEAF: only if all SINGERS sing");
        OnlyMovesHisLips x = amongMutes(6, 9, 4, 8);
        sounds(x, 255, 1, 1);
        for (int i = 1; i < 8; i++) {
            sounds(x, 255 - (1 << i), 1, 0);
        }
        sounds(x, 1, 1, 0);
    }

    private static void deafAlone() {
        DUE.sentence("DEAF: he alone is all SINGERS");
        sounds(Due.choir(6), 1, 1, 1);
    }

    private static void deafWhenOneComes() {
        DUE.sentence("DEAF: all SINGERS, he who came last too");
        OnlyMovesHisLips x = Due.choir(6, 4);
        sounds(x, 3, 1, 1);
        x.singer(4, 0, 1);
        sounds(x, 3, 1, 0);
        sounds(x, 7, 1, 1);
    }

    private static void lawful(OnlyMovesHisLips x, int set, int is) {
        DUE.is("lawful(" + set + ")", x.lawful(set), is);
    }

    private static void theEmptySetIsNotLawful() {
        DUE.sentence("LAWFUL: sets by LAW: LEAST is 1 or more");
        OnlyMovesHisLips x = new OnlyMovesHisLips();
        lawful(x, 0, 0);
        lawful(x, 1, 0);
        x = Due.choir(0, 0);
        lawful(x, 0, 0);
        lawful(x, 1, 1);
        lawful(x, 3, 1);
        lawful(x, 4, 0);
        lawful(x, 7, 0);
        lawful(x, -1, 0);
        lawful(x, Integer.MIN_VALUE, 0);
        lawful(x, Integer.MAX_VALUE, 0);
        x.ask(2, 1);
        lawful(x, 0, 0);
        lawful(x, 4, 0);
        OnlyMovesHisLips full = Scenes.full();
        lawful(full, 255, 1);
        lawful(full, 256, 0);
        lawful(full, 128, 1);
    }

    private static void leastJustMet() {
        DUE.sentence("LEAST: never fewer sing");
        for (int least = 1; least <= 8; least++) {
            OnlyMovesHisLips x = Scenes.full();
            x.ask(1, least);
            for (int many = 1; many <= 8; many++) {
                lawful(x, (1 << many) - 1, many >= least ? 1 : 0);
                lawful(x, 255 & ~((1 << 8 - many) - 1), many >= least ? 1 : 0);
            }
        }
    }

    private static void leastOfAll() {
        DUE.sentence("LEAST beyond the SINGERS there are");
        OnlyMovesHisLips x = Due.choir(0, 0, 0);
        x.ask(1, 3);
        lawful(x, 7, 1);
        x.ask(1, 4);
        lawful(x, 7, 0);
        DUE.is("NEXT", x.next(), -1);
        DUE.is("hear", x.hear(7), -6);
        DUE.is("BY NEXT", x.by(0), 0);
        DUE.is("LEFT", x.by(2), 3);
        x.singer(0, 0, 1);
        lawful(x, 15, 1);
    }

    private static void neighboursWithoutAGap() {
        DUE.sentence("NEIGHBOURS: if 1, those who sing stand at PLACES one beside the other, without a gap");
        OnlyMovesHisLips x = Due.choir(0, 0, 0, 0);
        x.ask(2, 1);
        int[] are = {1, 2, 3, 4, 6, 7, 8, 12, 14, 15};
        int at = 0;
        for (int set = 1; set < 16; set++) {
            boolean is = at < are.length && are[at] == set;
            at += is ? 1 : 0;
            lawful(x, set, is ? 1 : 0);
        }
        DUE.is("as many as are named", at, are.length);
        x.ask(2, 0);
        for (int set = 1; set < 16; set++) {
            lawful(x, set, 1);
        }
    }

    private static void neighboursAreNoCircle() {
        DUE.sentence("NEIGHBOURS: the last isn't beside the first");
        OnlyMovesHisLips x = Scenes.full();
        x.ask(2, 1);
        lawful(x, 129, 0);
        lawful(x, 131, 0);
        lawful(x, 192, 1);
        lawful(x, 255, 1);
        lawful(x, 255 - 16, 0);
        lawful(x, 254, 1);
        lawful(x, 127, 1);
    }

    private static void neighboursByPlaces() {
        DUE.sentence("NEIGHBOURS: at PLACES, whatever the numbers");
        OnlyMovesHisLips x = Scenes.full();
        x.ask(2, 1);
        x.swap(0, 7);
        // the row: 7 1 2 3 4 5 6 0
        lawful(x, 128 + 2, 1);
        lawful(x, 64 + 1, 1);
        lawful(x, 128 + 64, 0);
        lawful(x, 1 + 2, 0);
        lawful(x, 128 + 1, 0);
    }

    private static void bothLaws() {
        DUE.sentence("LAW: LEAST and NEIGHBOURS");
        OnlyMovesHisLips x = Due.choir(0, 0, 0, 0);
        x.ask(1, 2);
        x.ask(2, 1);
        lawful(x, 1, 0);
        lawful(x, 3, 1);
        lawful(x, 5, 0);
        lawful(x, 13, 0);
        lawful(x, 14, 1);
    }
}
