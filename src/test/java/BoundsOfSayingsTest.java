/** Each sentence that names a bound of what can be said by what was heard (promises 20, 21 and 23 to 29). */
public final class BoundsOfSayingsTest {
    private static final Due DUE = new Due("BoundsOfSayingsTest");

    public static void main(String[] args) {
        mayAndSureOfNone();
        mayAndSureOfOne();
        mayAndSureOfAll();
        likeliestOfSeveral();
        likeliestOfOne();
        partsOfNoneAndAll();
        worstIsTheGreater();
        partsOfSetsThatAreNotLawful();
        nextIsTheLeast();
        nextByWorst();
        nextByHowMany();
        nextByLaw();
        noNext();
        nextOfAll();
        byOfOne();
        byWithoutANext();
        byTheMeanIsCut();
        byTheMeanByWeights();
        byLeftAtMost();
        byBeyondSixteen();
        aheadByNoSets();
        aheadBySixteen();
        aheadOfNonePossible();
        aheadByPossibleOnes();
        aheadByLongs();
        judgeByNothing();
        judgeByOne();
        judgeBy32();
        judgeByTheFirstN();
        judgeBySounds();
        judgeBySets();
        judgeByWhatIsKnown();
        judgeWithNonePossible();
        behindNothing();
        behind32();
        behindOdd();
        byEarOfNothing();
        byEarWithoutErring();
        byEarOf50();
        byEarIsCutEachTime();
        byEarToAHundredth();
        byAnew();
        ninetyTwoByWhatIsKnown();
        ninetyTwoTold();
        byEarOf32();
        byEarWhateverIsKnown();
        byEarOfTies();
        DUE.end();
    }

    private static OnlyMovesHisLips odds(int... odds) {
        OnlyMovesHisLips x = new OnlyMovesHisLips();
        for (int o : odds) {
            x.singer(0, 0, o);
        }
        return x;
    }

    private static void mayAndSureOfNone() {
        DUE.sentence("MAY .., SURE: in all (none, if none is POSSIBLE)");
        OnlyMovesHisLips[] none = {new OnlyMovesHisLips(), Scenes.impossible()};
        for (OnlyMovesHisLips x : none) {
            DUE.is("MAY", x.may(0), 0);
            DUE.is("SURE", x.may(1), 0);
            DUE.is("nothing refused", x.status(15), 0);
        }
    }

    private static void mayAndSureOfOne() {
        DUE.sentence("MAY, SURE: one POSSIBLE");
        OnlyMovesHisLips x = Due.choir(4);
        DUE.is("MAY of one SINGER", x.may(0), 1);
        DUE.is("SURE of one SINGER", x.may(1), 1);
        x = Due.choir(0, 0, 0);
        x.ask(0, 3);
        x.heard(1, 1);
        x.heard(4, 1);
        DUE.is("SURE of two POSSIBLE", x.may(1), 5);
        DUE.is("MAY of two POSSIBLE", x.may(0), 7);
        x.heard(2, 0);
        DUE.is("MAY of one", x.may(0), 5);
        DUE.is("SURE of one", x.may(1), 5);
        x = Due.choir(0, 0);
        x.ask(0, 2);
        x.heard(1, 1);
        DUE.is("SURE of the first and the last", x.may(1), 1);
        DUE.is("MAY of the first and the last", x.may(0), 3);
    }

    private static void mayAndSureOfAll() {
        DUE.sentence("MAY, SURE: all POSSIBLE");
        OnlyMovesHisLips x = Scenes.full();
        DUE.is("MAY", x.may(0), 255);
        DUE.is("SURE", x.may(1), 0);
        DUE.is("may(2)", x.may(2), -5);
        DUE.is("may(-1)", x.may(-1), -5);
    }

    private static void likeliestOfSeveral() {
        DUE.sentence("LIKELIEST: the POSSIBLE WORLD of the greatest WEIGHT, of several the first");
        DUE.is("all alike", odds(2, 2, 2).likeliest(), 1);
        DUE.is("the last two alike", odds(2, 3, 3).likeliest(), 2);
        DUE.is("the greatest behind", odds(2, 2, 3).likeliest(), 4);
        OnlyMovesHisLips x = odds(1, 1, 5);
        x.ask(0, 3);
        DUE.is("4 is ahead of 5, 6, 7, which weigh the same", x.likeliest(), 4);
        x.heard(4, 0);
        DUE.is("of those that are POSSIBLE", x.likeliest(), 1);
    }

    private static void likeliestOfOne() {
        DUE.sentence("LIKELIEST: one POSSIBLE");
        OnlyMovesHisLips x = odds(9, 1);
        x.heard(1, 0);
        DUE.is("the one", x.likeliest(), 2);
        DUE.is("of one SINGER", odds(1).likeliest(), 1);
    }

    private static void partsOfNoneAndAll() {
        DUE.sentence("PARTS of a set: how many POSSIBLE ones sound wrong by it");
        OnlyMovesHisLips x = Due.choir(0, 0, 4);
        DUE.is("none", x.parts(4, 0), 0);
        DUE.is("some", x.parts(7, 0), 2);
        x.heard(3, 1);
        DUE.is("all", x.parts(7, 0), 2);
        DUE.is("WORST of all", x.parts(7, 1), 2);
        DUE.is("WORST of none", x.parts(4, 1), 2);
        OnlyMovesHisLips none = Scenes.impossible();
        DUE.is("none POSSIBLE", none.parts(3, 0), 0);
        DUE.is("none POSSIBLE, WORST", none.parts(3, 1), 0);
        OnlyMovesHisLips many = Scenes.full();
        many.ask(0, 3);
        DUE.is("of 92", many.parts(255, 0), 92);
        DUE.is("of 92 by one", many.parts(128, 0), 1 + 7 + 21);
        DUE.is("WORST of 92 by one", many.parts(128, 1), 7 + 21 + 35);
    }

    private static void worstIsTheGreater() {
        DUE.sentence("WORST: the greater of that and of the others");
        OnlyMovesHisLips x = Due.choir(0, 0, 0, 0);
        DUE.is("1 and 3", x.parts(1, 1), 3);
        DUE.is("2 and 2", x.parts(3, 1), 2);
        DUE.is("3 and 1", x.parts(7, 1), 3);
        DUE.is("4 and none", x.parts(15, 1), 4);
        DUE.is("another what", x.parts(1, 2), -5);
        DUE.is("another what below", x.parts(1, -1), -5);
        DUE.is("an empty set", x.parts(0, 1), -6);
        DUE.is("others than there are", x.parts(16, 1), -6);
    }

    private static void partsOfSetsThatAreNotLawful() {
        DUE.sentence("PARTS of a set that isn't LAWFUL");
        OnlyMovesHisLips x = Due.choir(0, 0, 0);
        x.ask(1, 8);
        x.ask(2, 1);
        DUE.is("PARTS", x.parts(5, 0), 2);
        DUE.is("WORST", x.parts(1, 1), 2);
    }

    private static void nextIsTheLeast() {
        DUE.sentence("NEXT: the LAWFUL set with the least WORST, of several the least (as bits)");
        DUE.is("of two", Due.choir(0, 0).next(), 1);
        DUE.is("of three", Due.choir(0, 0, 0).next(), 1);
        DUE.is("behind a MUTE", Due.choir(4, 0, 0).next(), 2);
        OnlyMovesHisLips x = Due.choir(0, 0);
        x.ask(0, 2);
        // 1, 2 and 3: by 1 and by 2 two sound wrong, by 3 all do
        DUE.is("of two, MOST 2", x.next(), 1);
    }

    private static void nextByWorst() {
        DUE.sentence("NEXT: the least WORST, be its bits as they may");
        DUE.is("two of four", Due.choir(0, 0, 0, 0).next(), 3);
        DUE.is("four of eight", Scenes.full().next(), 15);
        OnlyMovesHisLips x = Due.choir(4, 4, 4, 0, 0);
        // 8 and 16 have WORST 4, 24 has 3
        DUE.is("two of five", x.next(), 24);
    }

    private static void nextByHowMany() {
        DUE.sentence("WORST goes by how many, not by WEIGHTS");
        DUE.is("a heavy third", odds(1, 1, 9).next(), 1);
        DUE.is("a heavy fourth", odds(1, 1, 1, 9).next(), 3);
        DUE.is("WORST", odds(1, 1, 1, 9).parts(8, 1), 3);
    }

    private static void nextByLaw() {
        DUE.sentence("NEXT: the LAWFUL set");
        OnlyMovesHisLips x = Due.choir(0, 0, 0, 0);
        x.ask(1, 3);
        DUE.is("of three or four", x.next(), 7);
        x.heard(7, 1);
        // 11 has 1 and 2, 13 has 1 and 4: both leave two of three; 11 is less
        DUE.is("then", x.next(), 11);
        x.forget();
        x.ask(1, 1);
        x.swap(1, 3);
        x.ask(2, 1);
        // the row: 0 3 2 1
        DUE.is("two who are neighbours", x.next(), 6);
    }

    private static void noNext() {
        DUE.sentence("NONE, if by none both parts have any");
        DUE.is("no SINGERS", new OnlyMovesHisLips().next(), -1);
        DUE.is("one POSSIBLE", Due.choir(0).next(), -1);
        DUE.is("none POSSIBLE", Scenes.impossible().next(), -1);
        DUE.is("never heard", Due.choir(4, 4).next(), -1);
        OnlyMovesHisLips x = Due.choir(0, 0);
        x.ask(1, 2);
        DUE.is("heard by all", x.next(), -1);
        x.ask(1, 3);
        DUE.is("nothing LAWFUL", x.next(), -1);
        x.ask(1, 1);
        DUE.is("by one", x.next(), 1);
    }

    private static void nextOfAll() {
        DUE.sentence("NEXT: all, if by no other both parts have any");
        OnlyMovesHisLips x = Due.choir(6, 4, 4);
        DUE.is("a DEAF one", x.next(), 7);
        OnlyMovesHisLips eight = Due.choir(4, 4, 4, 4, 4, 4, 4, 6);
        DUE.is("of eight", eight.next(), 255);
    }

    private static void by(OnlyMovesHisLips x, int worst, int mean, int left) {
        DUE.is("at WORST", x.by(0), worst);
        DUE.is("the MEAN", x.by(1), mean);
        DUE.is("LEFT", x.by(2), left);
    }

    private static void byOfOne() {
        DUE.sentence("BY NEXT: on and on NEXT sings, till one is POSSIBLE");
        by(Due.choir(0), 0, 0, 1);
        by(Due.choir(4), 0, 0, 1);
        by(Due.choir(0, 0), 1, 1000, 1);
        OnlyMovesHisLips x = Due.choir(0, 0);
        x.heard(1, 1);
        by(x, 0, 0, 1);
        by(Scenes.full(), 3, 3000, 1);
    }

    private static void byWithoutANext() {
        DUE.sentence("BY NEXT: .. or there is no NEXT");
        by(Due.choir(4, 4, 4), 0, 0, 3);
        OnlyMovesHisLips x = Due.choir(0, 0);
        x.ask(1, 3);
        by(x, 0, 0, 2);
        DUE.is("another what", x.by(3), -5);
        DUE.is("another what below", x.by(-1), -5);
    }

    private static void byTheMeanIsCut() {
        DUE.sentence("the MEAN: .. (cut)");
        // one after 1, two after 2: 5 of 3
        by(Due.choir(0, 0, 0), 2, 1666, 1);
        // two each after 2, one after 2, two after 3: 12 of 5
        by(Due.choir(0, 0, 0, 0, 0), 3, 2400, 1);
        // 2 after 3, 2 after 3, 2 after 2: 16 of 6
        by(Due.choir(0, 0, 0, 0, 0, 0), 3, 2666, 1);
    }

    private static void byTheMeanByWeights() {
        DUE.sentence("the MEAN: .. each POSSIBLE one by its WEIGHT, by all WEIGHTS");
        // the first after 1: (9 + 2 + 2) of 11
        by(odds(9, 1, 1), 2, 1181, 1);
        // (1 + 18 + 2) of 11
        by(odds(1, 9, 1), 2, 1909, 1);
    }

    private static void byLeftAtMost() {
        DUE.sentence("LEFT: how many are POSSIBLE behind it at most");
        by(Due.choir(0, 4, 4), 1, 1000, 2);
        // by 3 first: two are told by 1 then, three never: (2 + 2 + 1 + 1 + 1) of 5
        by(Due.choir(0, 0, 4, 4, 4), 2, 1400, 3);
        by(Due.choir(4, 0), 1, 1000, 1);
    }

    private static void byBeyondSixteen() {
        DUE.sentence("BY NEXT wants no room: more than 16 HEARINGS");
        OnlyMovesHisLips x = Scenes.full();
        x.ask(0, 3);
        x.ask(1, 6);
        DUE.is("at WORST", x.by(0), 28);
        DUE.is("LEFT", x.by(2), 56);
        DUE.is("nothing is KNOWN by it", x.known(-1), 0);
        OnlyMovesHisLips full = Scenes.sixteen();
        full.forget();
        for (int set = 17; set <= 31; set++) {
            full.hear(31);
        }
        by(full, 3, 2400, 1);
    }

    private static void ahead(OnlyMovesHisLips x, int n, int rows, int alike) {
        DUE.is("ahead(0, " + n + ", 0)", x.ahead(0, n, 0), rows);
        DUE.is("ahead(0, " + n + ", 1)", x.ahead(0, n, 1), alike);
    }

    private static void aheadByNoSets() {
        DUE.sentence("ahead: by the first n elements (0 to 16): 0");
        OnlyMovesHisLips x = Due.choir(0, 0, 0);
        x.row(0, 2, 0);
        ahead(x, 0, 1, 3);
        Due.row(x, 0, 0, 0);
        ahead(x, 0, 1, 3);
        DUE.is("n 1, no set", x.ahead(0, 1, 0), -6);
        DUE.is("n -1", x.ahead(0, -1, 0), -4);
    }

    private static void aheadBySixteen() {
        DUE.sentence("ahead: by the first n elements (0 to 16): 16");
        OnlyMovesHisLips x = Due.choir(0, 0, 0);
        Due.row(x, 0, 7, 7, 7, 7, 7, 7, 7, 7, 7, 7, 7, 7, 7, 7, 7, 1, 2);
        ahead(x, 15, 1, 3);
        ahead(x, 16, 2, 2);
        DUE.is("17", x.ahead(0, 17, 0), -6);
        x.row(0, 2, 16);
        DUE.is("17 of 16", x.ahead(0, 17, 0), -5);
        // the first of 16 counts as the last does
        Due.row(x, 0, 1, 7, 7, 7, 7, 7, 7, 7, 7, 7, 7, 7, 7, 7, 7, 2);
        ahead(x, 16, 3, 1);
        DUE.is("what -1", x.ahead(0, 16, -1), -5);
        DUE.is("what 2", x.ahead(0, 16, 2), -5);
    }

    private static void aheadOfNonePossible() {
        DUE.sentence("TOLD AHEAD: how many unlike rows of sounds POSSIBLE ones have: none POSSIBLE");
        OnlyMovesHisLips x = Scenes.impossible();
        Due.row(x, 0, 1, 2);
        ahead(x, 0, 0, 0);
        ahead(x, 2, 0, 0);
        OnlyMovesHisLips none = new OnlyMovesHisLips();
        none.row(0, 2, 1);
        ahead(none, 0, 0, 0);
        DUE.is("no SINGERS, no set", none.ahead(0, 1, 0), -6);
    }

    private static void aheadByPossibleOnes() {
        DUE.sentence("TOLD AHEAD: POSSIBLE ones; ALIKE: the most that sound alike; sets need not be LAWFUL");
        OnlyMovesHisLips x = Due.choir(0, 0, 0, 0);
        x.ask(1, 8);
        Due.row(x, 0, 1, 2, 4, 8);
        ahead(x, 1, 2, 3);
        ahead(x, 2, 3, 2);
        ahead(x, 3, 4, 1);
        ahead(x, 4, 4, 1);
        x.heard(1, 0);
        ahead(x, 1, 1, 3);
        ahead(x, 2, 2, 2);
        OnlyMovesHisLips many = Scenes.full();
        many.ask(0, 3);
        Due.row(many, 0, 1, 2, 4, 8, 16, 32, 64, 128);
        ahead(many, 8, 92, 1);
        Due.row(many, 0, 255);
        ahead(many, 1, 1, 92);
    }

    private static void aheadByLongs() {
        DUE.sentence("(As ints: of longs the lowest 32 bits.)");
        OnlyMovesHisLips x = Due.choir(0, 0);
        x.row(0, 3, 3);
        x.set(0, 0, (1L << 32) + 1);
        x.set(0, 1, 1L << 32);
        x.set(0, 2, -(1L << 32) + 1);
        ahead(x, 1, 2, 1);
        DUE.is("ahead by nobody", x.ahead(0, 2, 0), -6);
        DUE.is("judge: a set, no WRONG sound", x.judge(0, 2), -1);
        DUE.is("judge: a third", x.judge(0, 3), -1);
        DUE.is("behind", x.behind(0, 2), 1);
        DUE.is("byEar", x.byEar(0, 2), 2);
        x.row(0, 0, 1);
        x.set(0, 0, 257);
        ahead(x, 1, 2, 1);
    }

    private static void judge(OnlyMovesHisLips x, int wrong, long... row) {
        Due.row(x, 0, row);
        DUE.is("judge of " + java.util.Arrays.toString(row), x.judge(0, row.length), wrong);
    }

    private static void judgeByNothing() {
        DUE.sentence("judge: by the first n elements (0 to 32): 0");
        judge(Due.choir(0, 0), -1);
        judge(new OnlyMovesHisLips(), -1);
        judge(Scenes.impossible(), -1);
        OnlyMovesHisLips x = Due.choir(0);
        Due.row(x, 0, 0, 0);
        DUE.is("what isn't told isn't WRONG", x.judge(0, 0), -1);
    }

    private static void judgeByOne() {
        DUE.sentence("a ROW, sets and sounds by turns: a set alone");
        judge(Due.choir(0, 0), -1, 3);
        judge(Due.choir(0, 0), 0, 4);
        judge(Due.choir(0, 0), 2, 3, 1, 0);
        judge(Due.choir(0, 0), -1, 3, 1, 1);
    }

    private static long[] times(int n, long set, long sound) {
        long[] row = new long[n];
        for (int i = 0; i < n; i++) {
            row[i] = i % 2 == 0 ? set : sound;
        }
        return row;
    }

    private static void judgeBy32() {
        DUE.sentence("judge: by the first n elements (0 to 32): 32");
        OnlyMovesHisLips x = Due.choir(0, 0);
        long[] row = times(33, 3, 1);
        Due.row(x, 0, row);
        DUE.is("31", x.judge(0, 31), -1);
        DUE.is("32", x.judge(0, 32), -1);
        DUE.is("33", x.judge(0, 33), -16);
        x.set(0, 31, 0);
        DUE.is("WRONG at the last of 32", x.judge(0, 32), 31);
        DUE.is("not told", x.judge(0, 31), -1);
        x.set(0, 30, 0);
        DUE.is("WRONG at the last set", x.judge(0, 32), 30);
        x.row(0, 2, 32);
        DUE.is("33 of 32", x.judge(0, 33), -15);
    }

    private static void judgeByTheFirstN() {
        DUE.sentence("WRONG: the first element");
        OnlyMovesHisLips x = Due.choir(0, 0);
        judge(x, 0, 0, 2, 0, 2);
        judge(x, 1, 3, 2, 0, 2);
        judge(x, 2, 3, 1, 0, 2);
        judge(x, 3, 3, 1, 3, 2);
        Due.row(x, 0, 3, 1, 3, 2);
        DUE.is("the first three", x.judge(0, 3), -1);
    }

    private static void judgeBySounds() {
        DUE.sentence("WRONG: .. no sound, or a sound that no WORLD POSSIBLE by then has");
        OnlyMovesHisLips x = Due.choir(0, 0, 0);
        judge(x, 1, 1, -1);
        judge(x, -1, 1, 0);
        judge(x, -1, 1, 1);
        judge(x, 1, 1, 2);
        judge(x, 1, 7, 0);
        judge(x, 5, 1, 0, 2, 0, 4, 0);
        judge(x, -1, 1, 0, 2, 0, 4, 1);
        judge(x, 3, 1, 1, 1, 0);
    }

    private static void judgeBySets() {
        DUE.sentence("in a told evening they (sets) have to be LAWFUL");
        OnlyMovesHisLips x = Due.choir(0, 0, 0);
        judge(x, 0, 0, 1);
        judge(x, 0, 8, 1);
        judge(x, 0, -1, 1);
        x.ask(1, 2);
        judge(x, 0, 1, 1);
        judge(x, -1, 3, 1);
        x.ask(2, 1);
        judge(x, 0, 5, 1);
        judge(x, -1, 6, 1);
        judge(x, -1, 7, 1);
        x.ask(1, 4);
        judge(x, 0, 7, 1);
    }

    private static void judgeByWhatIsKnown() {
        DUE.sentence("WRONG: .. (and by what is KNOWN)");
        OnlyMovesHisLips x = Due.choir(0, 0);
        judge(x, -1, 1, 0);
        x.heard(1, 1);
        judge(x, 1, 1, 0);
        judge(x, -1, 1, 1);
        judge(x, 1, 2, 1);
        DUE.is("KNOWN as before", x.known(-1), 1);
    }

    private static void judgeWithNonePossible() {
        DUE.sentence("WRONG: with none POSSIBLE every sound is");
        OnlyMovesHisLips x = Scenes.impossible();
        judge(x, 1, 1, 1);
        judge(x, 1, 1, 0);
        judge(x, -1, 1);
        judge(x, 0, 0);
        DUE.is("behind", x.behind(0, 0), 0);
        Due.row(x, 0, 1, 1);
        DUE.is("behind two", x.behind(0, 2), -6);
    }

    private static void behindNothing() {
        DUE.sentence("BEHIND it: how many are POSSIBLE: nothing told");
        OnlyMovesHisLips x = Due.choir(0, 0, 0);
        x.row(0, 2, 0);
        DUE.is("all", x.behind(0, 0), 3);
        x.heard(1, 0);
        DUE.is("by what is KNOWN", x.behind(0, 0), 2);
        OnlyMovesHisLips none = new OnlyMovesHisLips();
        none.row(0, 2, 2);
        DUE.is("no SINGERS", none.behind(0, 0), 0);
        DUE.is("no SINGERS, two elements", none.behind(0, 2), -6);
    }

    private static void behind32() {
        DUE.sentence("behind: -6 also if .. above 32");
        OnlyMovesHisLips x = Due.choir(0, 0, 0);
        Due.row(x, 0, times(34, 3, 1));
        DUE.is("32", x.behind(0, 32), 2);
        DUE.is("34", x.behind(0, 34), -6);
        DUE.is("33", x.behind(0, 33), -6);
        DUE.is("35 of 34", x.behind(0, 35), -5);
        x.set(0, 31, 0);
        DUE.is("WRONG at the last", x.behind(0, 32), -6);
        DUE.is("not told", x.behind(0, 30), 2);
    }

    private static void behindOdd() {
        DUE.sentence("behind: -6 also if .. n odd");
        OnlyMovesHisLips x = Due.choir(0, 0, 0);
        Due.row(x, 0, 1, 0, 2, 0);
        int[] due = {3, -6, 2, -6, 1, -5};
        for (int n = 0; n < due.length; n++) {
            DUE.is("behind(0, " + n + ")", x.behind(0, n), due[n]);
        }
        DUE.is("nothing is KNOWN by it", x.known(-1), 0);
    }

    private static void ear(OnlyMovesHisLips x, int world, long... row) {
        Due.row(x, 0, row);
        DUE.is("byEar of " + java.util.Arrays.toString(row), x.byEar(0, row.length), world);
    }

    private static void byEarOfNothing() {
        DUE.sentence("BY EAR: each WORLD has 10,000 times its WEIGHT: nothing told");
        ear(odds(1, 3, 2), 2);
        ear(odds(1), 1);
        OnlyMovesHisLips x = odds(9, 9, 9);
        x.ask(0, 3);
        ear(x, 7);
    }

    private static void byEarWithoutErring() {
        DUE.sentence("BY EAR: EAR 0: what sounds otherwise is left with nothing");
        OnlyMovesHisLips x = odds(1, 9);
        ear(x, 1, 1, 1);
        ear(x, 2, 1, 0);
        // nothing is left of any
        ear(x, 1, 1, 0, 2, 0);
        ear(odds(1, 9, 9), 4, 3, 0);
    }

    private static void byEarOf50() {
        DUE.sentence("BY EAR: EAR 50: so or else, it is halved");
        OnlyMovesHisLips x = odds(1, 9, 9);
        x.ask(3, 50);
        ear(x, 2, 1, 1);
        ear(x, 2, 2, 0);
        x.ask(3, 49);
        // 10000, 90000, 90000 by .51, .49, .49, and by .51, .51, .49 then
        ear(x, 2, 1, 1);
        ear(x, 4, 2, 0);
    }

    private static void byEarIsCutEachTime() {
        DUE.sentence("BY EAR: for each set and sound: .. by 100 (cut)");
        OnlyMovesHisLips x = odds(1, 1);
        x.ask(3, 3);
        // 9700, 291, 8, 7 and 300, 291, 282, 8, though without the cuts both had as much
        ear(x, 2, 1, 1, 1, 0, 1, 0, 1, 1);
        // 291 both
        ear(x, 1, 1, 1, 1, 0);
    }

    private static OnlyMovesHisLips ear(int ear, int... odds) {
        OnlyMovesHisLips x = odds(odds);
        x.ask(3, ear);
        return x;
    }

    private static void byEarToAHundredth() {
        DUE.sentence("BY EAR: 10,000 times its WEIGHT; .. times 100 less EAR, if it sounds so, else times EAR, by 100");
        // 13200, 13400
        ear(ear(33, 4, 2), 2, 2, 1);
        // 27900, 20700, 27600
        ear(ear(31, 9, 3, 4), 1, 6, 1);
        // 12900, 5700, 17100, then 7353, 3249, 7353
        ear(ear(43, 3, 1, 3), 1, 6, 1, 4, 0);
        // 15400, 54600, 15400, then 12012, 12012, 3388
        ear(ear(22, 7, 7, 7), 1, 5, 0, 6, 0);
        // 4400, 7700, 62300, then 484, 6853, 6853
        ear(ear(11, 4, 7, 7), 2, 3, 0, 2, 1);
        // 4600, 15400, then 3542 both
        ear(ear(23, 2, 2), 1, 1, 0, 1, 1);
    }

    private static void byAnew() {
        DUE.sentence("BY NEXT: what was WORST, the MEAN and LEFT by more WORLDS is nothing to fewer");
        OnlyMovesHisLips x = Due.choir(0, 0, 4, 4, 4);
        by(x, 2, 1400, 3);
        x.heard(3, 1);
        by(x, 1, 1000, 1);
        x.heard(1, 1);
        by(x, 0, 0, 1);
        x.forget();
        by(x, 2, 1400, 3);
    }

    private static OnlyMovesHisLips ninetyTwo() {
        OnlyMovesHisLips x = Scenes.full();
        x.ask(0, 3);
        return x;
    }

    private static void ninetyTwoByWhatIsKnown() {
        DUE.sentence("POSSIBLE: of 92 WORLDS, the last ones too");
        OnlyMovesHisLips x = ninetyTwo();
        DUE.is("5 is wrong", x.heard(32, 1), 1 + 7 + 21);
        DUE.is("7 too", x.heard(128, 1), 1 + 6);
        DUE.is("the first", x.world(0), 160);
        DUE.is("the last", x.world(6), 224);
        DUE.is("MAY", x.may(0), 255);
        DUE.is("SURE", x.may(1), 160);
        DUE.is("LIKELY", x.singerOf(6, 4), 142);
        DUE.is("PARTS", x.parts(64, 0), 1);
        DUE.is("LIKELIEST", x.likeliest(), 160);
        DUE.is("NEXT", x.next(), 7);
        DUE.is("6 isn't", x.heard(64, 0), 6);
        DUE.is("nor 4", x.heard(16, 0), 5);
        DUE.is("one of 0 to 3", x.heard(15, 1), 4);
        DUE.is("neither 0 nor 1", x.heard(3, 0), 2);
        DUE.is("3", x.heard(8, 1), 1);
        DUE.is("the one", x.likeliest(), 168);
        DUE.is("no other", x.heard(4, 1), -6);
    }

    private static void ninetyTwoTold() {
        DUE.sentence("a told evening, by 92 WORLDS, the last ones too");
        OnlyMovesHisLips x = ninetyTwo();
        judge(x, -1, 128, 1, 64, 1, 32, 1, 31, 0);
        DUE.is("behind all", x.behind(0, 8), 1);
        DUE.is("behind three", x.behind(0, 6), 1);
        DUE.is("behind two", x.behind(0, 4), 7);
        DUE.is("behind one", x.behind(0, 2), 29);
        judge(x, 7, 128, 1, 64, 1, 32, 1, 31, 1);
        judge(x, 5, 128, 1, 127, 0, 64, 1);
        x.heard(32, 1);
        judge(x, -1, 128, 1, 64, 1);
        DUE.is("behind, by what is KNOWN", x.behind(0, 4), 1);
        judge(x, 5, 128, 1, 64, 1, 16, 1);
        x.heard(31, 0);
        Due.row(x, 0, 128, 64);
        DUE.is("ahead by what is KNOWN", x.ahead(0, 2, 0), 4);
        ear(x, 224, 128, 1, 64, 1, 32, 1);
    }

    private static void byEarOf32() {
        DUE.sentence("byEar: -6 n above 32, odd, no sets, no sounds");
        OnlyMovesHisLips x = odds(1, 2, 3);
        Due.row(x, 0, times(34, 2, 1));
        DUE.is("32", x.byEar(0, 32), 2);
        DUE.is("34", x.byEar(0, 34), -6);
        DUE.is("31", x.byEar(0, 31), -6);
        DUE.is("35 of 34", x.byEar(0, 35), -5);
        x.set(0, 31, 2);
        DUE.is("no sound at the last", x.byEar(0, 32), -6);
        DUE.is("not told", x.byEar(0, 30), 2);
        x.set(0, 30, 0);
        x.set(0, 31, 1);
        DUE.is("no set at the last", x.byEar(0, 32), -6);
        x.set(0, 30, 2);
        x.set(0, 31, 0);
        // nothing is left of any: the first
        DUE.is("otherwise at the last", x.byEar(0, 32), 1);
    }

    private static void byEarWhateverIsKnown() {
        DUE.sentence("BY EAR: from all WORLDS, whatever is KNOWN; sets need not be LAWFUL");
        OnlyMovesHisLips x = odds(1, 1);
        x.heard(1, 0);
        ear(x, 1);
        ear(x, 1, 1, 1);
        x.ask(1, 2);
        ear(x, 1, 1, 1);
        OnlyMovesHisLips none = Scenes.impossible();
        ear(none, 1);
        ear(none, 2, 2, 1);
    }

    private static void byEarOfTies() {
        DUE.sentence("BY EAR: the WORLD that has most then, of several the first");
        OnlyMovesHisLips x = odds(2, 2, 2);
        ear(x, 1);
        ear(x, 2, 6, 1);
        ear(x, 4, 3, 0);
        x.ask(3, 50);
        // 20000 halved 15 times is nothing
        ear(x, 1, times(30, 4, 1));
    }
}
