/** Each sentence that names a bound of ACTS, of THE TRACE, of THE IMAGE and of status (promises 37 to 41), and the 512 calls. */
public final class BoundsOfWholeTest {
    private static final Due DUE = new Due("BoundsOfWholeTest");
    private static final int MIN = Integer.MIN_VALUE;
    private static final int MAX = Integer.MAX_VALUE;

    public static void main(String[] args) {
        actsOfSuchAsAreThere();
        actsOfNobody();
        noSuchAct();
        noTraceThen();
        actsWrapUpwards();
        actsWrapDownwards();
        actsByM();
        actsByKAtTheEnds();
        whichBodiesRan();
        traceAtTheEnds();
        traceOfTheLatest();
        theLongestTrace();
        actsChangeNothingElse();
        imageOfNobody();
        imageOfEight();
        imageAnew();
        noImage();
        restoreTwice();
        restoreBringsBackAll();
        restoreBringsBackPlacesOfEight();
        restoreLeavesOut();
        shelvesAtTheEdgeOfTheImage();
        shelvesWithoutSingers();
        statusAtTheEnds();
        eachRefusalIsCounted();
        statusOfAllBodies();
        statusIsNotRefused();
        fiveHundredAndTwelveCalls();
        objectsApart();
        DUE.end();
    }

    private static void actsOfSuchAsAreThere() {
        DUE.sentence("act: no such SINGER: the first and the last");
        OnlyMovesHisLips x = Scenes.full();
        DUE.is("the first", x.act(0, 0, 5), 5);
        DUE.is("the last", x.act(7, 0, 5), 12);
        DUE.is("one more", x.act(8, 0, 5), 0);
        DUE.is("one less", x.act(-1, 0, 5), 0);
        DUE.is("MAX", x.act(MAX, 0, 5), 0);
        DUE.is("MIN", x.act(MIN, 0, 5), 0);
    }

    private static void actsOfNobody() {
        DUE.sentence("act: 0, and no TRACE then: no such SINGER");
        OnlyMovesHisLips x = new OnlyMovesHisLips();
        DUE.is("no SINGERS", x.act(0, 0, 5), 0);
        DUE.is("none ran", x.status(8), 0);
        x.singer(0, 0, 1);
        DUE.is("one", x.act(0, 0, 5), 5);
        DUE.is("ran", x.status(8), 1);
        DUE.is("another", x.act(1, 0, 5), 0);
        DUE.is("none ran then", x.status(8), 0);
        DUE.is("trace(0)", x.trace(0), -1);
    }

    private static void noSuchAct() {
        DUE.sentence("ACTS of SINGERS: 0 sings, 1 hears, 2 leans; 0 .. then: no such .. act");
        OnlyMovesHisLips x = Due.choir(0);
        int[] answers = {5, 10, 15};
        int[] first = {10, 11, 12};
        for (int act = 0; act <= 2; act++) {
            DUE.is("act " + act, x.act(0, act, 5), answers[act]);
            DUE.is("its body", x.trace(0), first[act]);
        }
        for (int act : new int[] {-1, 3, MIN, MAX}) {
            x.act(0, 2, 5);
            DUE.is("act " + act, x.act(0, act, 5), 0);
            DUE.is("none ran", x.status(8), 0);
            DUE.is("trace(0)", x.trace(0), -1);
        }
    }

    private static void noTraceThen() {
        DUE.sentence("act: 0, and no TRACE then");
        OnlyMovesHisLips x = Due.choir(6);
        x.act(0, 2, 5);
        DUE.is("ten ran", x.status(8), 10);
        x.act(0, 3, 5);
        for (int i = 0; i < 20; i++) {
            DUE.is("trace(" + i + ")", x.trace(i), -1);
        }
        for (int what = 11; what <= 17; what++) {
            DUE.is("nothing refused", x.status(what), 0);
        }
    }

    private static void actsWrapUpwards() {
        DUE.sentence("ACTS of SINGERS, with x (wrapping): beyond the greatest");
        OnlyMovesHisLips x = new OnlyMovesHisLips();
        for (int kind = 0; kind < 7; kind++) {
            x.singer(kind, 9, 1);
        }
        DUE.is("10: x + m", x.act(2, 0, MAX), MIN + 1);
        DUE.is("11: * 2", x.act(0, 1, 1 << 30), MIN);
        DUE.is("11: * 2, of MAX", x.act(0, 1, MAX), -2);
        DUE.is("20: + k", x.act(1, 0, MAX), MIN + 9);
        // (2^30 + 2) * 2 is MIN + 4, times 3 is 3 MIN + 12
        DUE.is("30: * 3", x.act(2, 1, 1 << 30), MIN + 12);
        // 40: x + 1 is MIN, + 3 + 9, * 2
        DUE.is("40: x + 1", x.act(3, 1, MAX), 24);
        // 51: x + 6 - 6, 70: * 2
        DUE.is("70: * 2", x.act(6, 0, 1 << 30), MIN);
    }

    private static void actsWrapDownwards() {
        DUE.sentence("ACTS of SINGERS, with x (wrapping): below the least");
        OnlyMovesHisLips x = new OnlyMovesHisLips();
        for (int kind = 0; kind < 7; kind++) {
            x.singer(kind, 1, 1);
        }
        // hears 0, sings MAX
        DUE.is("12: x - k", x.act(0, 2, MIN), MAX);
        // x + 4 - 4: hears 0, sings MAX, and 50: -MAX
        DUE.is("50", x.act(4, 2, MIN), -MAX);
        // 71: x - 1 is MAX, 11: sings: 70: (MAX + 6 - 6) * 2 is -2, * 2 is -4
        DUE.is("71: x - k", x.act(6, 1, MIN), -4);
        // hears (MIN + 5) * 2 * 3 = 30, sings MIN - 1 + 5 = MIN + 4: 30 ^ (MIN + 4) ^ 5
        DUE.is("60", x.act(5, 2, MIN), 30 ^ MIN + 4 ^ 5);
        OnlyMovesHisLips least = Due.choir(4);
        // hears(2^30) is MIN, sings 2^30: - (MIN ^ 2^30)
        DUE.is("50 of a great one", least.act(0, 2, 1 << 30), -(MIN ^ 1 << 30));
    }

    private static void actsByM() {
        DUE.sentence("m the number: whatever the PLACE");
        OnlyMovesHisLips x = Scenes.full();
        x.swap(0, 7);
        for (int i = 0; i < 8; i++) {
            DUE.is("of " + i, x.act(i, 0, 100), 100 + i);
        }
    }

    private static void actsByKAtTheEnds() {
        DUE.sentence("k its a: 0 and 9");
        OnlyMovesHisLips x = new OnlyMovesHisLips();
        x.singer(1, 0, 1);
        x.singer(1, 9, 1);
        DUE.is("a 0", x.act(0, 0, 5), 5);
        DUE.is("a 9", x.act(1, 0, 5), 15);
        // hears 10, sings 5; hears 30, sings 5 - 9 + 1 + 9 = 6
        DUE.is("a 0 leans", x.act(0, 2, 5), 10 ^ 5);
        DUE.is("a 9 leans", x.act(1, 2, 5), 30 ^ 6);
    }

    private static void ran(OnlyMovesHisLips x, int kind, int act, int... bodies) {
        x.act(kind, act, 3);
        DUE.is("status(8) of " + kind + ", " + act, x.status(8), bodies.length);
        for (int i = 0; i < bodies.length; i++) {
            DUE.is("trace(" + i + ") of " + kind + ", " + act, x.trace(i), bodies[i]);
        }
        DUE.is("no more", x.trace(bodies.length), -1);
    }

    private static void whichBodiesRan() {
        DUE.sentence("the body of the SINGER's KIND, or of the next KIND above that has one; super: from the KIND above the body's on");
        OnlyMovesHisLips x = Due.choir(0, 1, 2, 3, 4, 5, 6);
        ran(x, 0, 0, 10);
        ran(x, 0, 1, 11, 10);
        ran(x, 0, 2, 12, 11, 10, 10);
        ran(x, 1, 0, 20, 10);
        ran(x, 1, 1, 11, 20, 10);
        ran(x, 1, 2, 12, 11, 20, 10, 20, 10);
        ran(x, 2, 0, 10);
        ran(x, 2, 1, 30, 11, 10);
        ran(x, 2, 2, 12, 30, 11, 10, 10);
        ran(x, 3, 0, 20, 10);
        ran(x, 3, 1, 40, 11, 20, 10);
        ran(x, 3, 2, 12, 40, 11, 20, 10, 20, 10);
        ran(x, 4, 0, 51, 10);
        ran(x, 4, 1, 11, 51, 10);
        ran(x, 4, 2, 50, 12, 11, 51, 10, 51, 10);
        ran(x, 5, 0, 10);
        ran(x, 5, 1, 30, 11, 10);
        ran(x, 5, 2, 60, 12, 30, 11, 10, 10);
        ran(x, 6, 0, 70, 51, 10);
        ran(x, 6, 1, 71, 11, 70, 51, 10);
        ran(x, 6, 2, 50, 12, 71, 11, 70, 51, 10, 70, 51, 10);
    }

    private static void traceAtTheEnds() {
        DUE.sentence("trace: THE TRACE's i-th body. NONE: none such");
        OnlyMovesHisLips x = Due.choir(0);
        DUE.is("none yet", x.trace(0), -1);
        x.act(0, 1, 5);
        DUE.is("trace(-1)", x.trace(-1), -1);
        DUE.is("trace(0)", x.trace(0), 11);
        DUE.is("trace(1)", x.trace(1), 10);
        DUE.is("trace(2)", x.trace(2), -1);
        DUE.is("trace(19)", x.trace(19), -1);
        DUE.is("trace(20)", x.trace(20), -1);
        DUE.is("trace(MIN)", x.trace(MIN), -1);
        DUE.is("trace(MAX)", x.trace(MAX), -1);
    }

    private static void traceOfTheLatest() {
        DUE.sentence("THE TRACE: .. in the latest act()");
        OnlyMovesHisLips x = Due.choir(0, 6);
        x.act(1, 2, 5);
        x.act(0, 0, 5);
        DUE.is("the first", x.trace(0), 10);
        DUE.is("nothing of the one ahead", x.trace(1), -1);
        DUE.is("status(8)", x.status(8), 1);
        x.singer(0, 0, 1);
        x.swap(0, 1);
        x.next();
        DUE.is("other calls leave it", x.trace(0), 10);
    }

    private static void theLongestTrace() {
        DUE.sentence("the first 20 are kept: more than the longest act has");
        OnlyMovesHisLips x = Due.choir(6);
        x.act(0, 2, 5);
        int[] bodies = {50, 12, 71, 11, 70, 51, 10, 70, 51, 10};
        for (int i = 0; i < bodies.length; i++) {
            DUE.is("trace(" + i + ")", x.trace(i), bodies[i]);
        }
        DUE.is("all, kept or not", x.status(8), 10);
    }

    private static void actsChangeNothingElse() {
        DUE.sentence("An ACT changes THE TRACE alone");
        OnlyMovesHisLips x = Scenes.busy();
        OnlyMovesHisLips twin = Scenes.busy();
        x.act(2, 1, 9);
        // the TRACE that busy() has
        DUE.is("as before", x.act(0, 2, 5), twin.act(0, 2, 5));
        DUE.same("all", Look.of(x), Look.of(twin));
    }

    private static void imageOfNobody() {
        DUE.sentence("image: how many SINGERS: none");
        OnlyMovesHisLips x = new OnlyMovesHisLips();
        DUE.is("image()", x.image(), 0);
        x.singer(0, 0, 1);
        x.ask(0, 3);
        x.ask(1, 3);
        x.ask(2, 1);
        x.ask(3, 3);
        x.seed(3);
        DUE.is("restore()", x.restore(), 0);
        int[] status = {0, 1, 1, 0, 0, 0, 0, 1};
        for (int what = 0; what < status.length; what++) {
            DUE.is("status(" + what + ")", x.status(what), status[what]);
        }
        DUE.is("WORLDS", x.worlds(0), 0);
        DUE.is("his number again", x.singer(0, 0, 1), 0);
    }

    private static void imageOfEight() {
        DUE.sentence("image: how many SINGERS: eight");
        OnlyMovesHisLips x = Scenes.full();
        x.ask(0, 3);
        x.isTrue(224);
        for (int set = 1; set <= 16; set++) {
            x.hear(set);
        }
        DUE.is("image()", x.image(), 8);
        x.forget();
        x.isTrue(1);
        DUE.is("restore()", x.restore(), 8);
        DUE.is("TRUE", x.status(6), 224);
        DUE.is("KNOWN", x.known(-1), 16);
        DUE.is("the last", x.known(15), 32);
        DUE.is("no ninth", x.singer(0, 0, 1), -7);
    }

    private static void imageAnew() {
        DUE.sentence("THE IMAGE is taken: in place of the one ahead");
        OnlyMovesHisLips x = Due.choir(0);
        x.image();
        x.singer(0, 0, 1);
        DUE.is("image()", x.image(), 2);
        x.singer(0, 0, 1);
        DUE.is("restore()", x.restore(), 2);
    }

    private static void noImage() {
        DUE.sentence("restore: -6 there is none");
        OnlyMovesHisLips x = Due.choir(0);
        DUE.is("restore()", x.restore(), -6);
        DUE.is("status(16)", x.status(16), 1);
        DUE.is("still there", x.status(0), 1);
        x.image();
        DUE.is("restore() then", x.restore(), 1);
    }

    private static void restoreTwice() {
        DUE.sentence("restore: THE IMAGE stays");
        OnlyMovesHisLips x = Due.choir(0, 0);
        x.hear(1);
        x.image();
        for (int i = 0; i < 3; i++) {
            x.singer(0, 0, 1);
            x.forget();
            DUE.is("restore()", x.restore(), 2);
            DUE.is("KNOWN", x.known(-1), 1);
        }
        x.hear(2);
        DUE.is("KNOWN beside THE IMAGE", x.known(-1), 2);
        x.restore();
        DUE.is("KNOWN by it", x.known(-1), 1);
    }

    private static void restoreBringsBackAll() {
        DUE.sentence("restore: All is as THE IMAGE has it");
        OnlyMovesHisLips x = new OnlyMovesHisLips();
        x.singer(1, 2, 3);
        x.singer(3, 4, 5);
        x.swap(0, 1);
        x.ask(0, 2);
        x.ask(1, 2);
        x.ask(2, 1);
        x.ask(3, 50);
        x.isTrue(3);
        x.hear(3);
        x.seed(-7);
        x.image();
        String before = seen(x);
        x.singer(0, 0, 1);
        x.swap(0, 2);
        x.ask(0, 3);
        x.ask(1, 1);
        x.ask(2, 0);
        x.ask(3, 0);
        x.isTrue(4);
        x.hear(1);
        x.evenings(3);
        x.restore();
        DUE.same("as before", seen(x), before);
    }

    private static void restoreBringsBackPlacesOfEight() {
        DUE.sentence("restore: All is as THE IMAGE has it: who stands beside whom, and 92 WORLDS");
        OnlyMovesHisLips x = new OnlyMovesHisLips();
        for (int i = 0; i < 8; i++) {
            x.singer(3, 0, 1 + i % 2);
            x.show(i, i);
        }
        x.ask(0, 3);
        x.swap(0, 7);
        x.swap(3, 6);
        x.isTrue(224);
        x.hear(128);
        x.image();
        x.swap(1, 5);
        x.swap(0, 4);
        x.ask(0, 1);
        x.heard(1, 0);
        x.sounds(2, 1);
        x.restore();
        // the row: 7 1 2 6 4 5 3 0
        int[] row = {7, 1, 2, 6, 4, 5, 3, 0};
        for (int place = 0; place < 8; place++) {
            DUE.is("PLACE of " + row[place], x.says(row[place], 0), place);
            DUE.is("who is ahead of " + row[place], x.says(row[place], 1), place == 0 ? -1 : row[place - 1]);
        }
        DUE.is("WORLDS", x.worlds(0), 92);
        DUE.is("POSSIBLE", x.worlds(1), 29);
        DUE.is("the last", x.world(28), 224);
        DUE.is("TRUE", x.status(6), 224);
        DUE.is("PARTS", x.parts(128, 0), 29);
        DUE.is("6 beside 4", x.sounds(64 + 16, 64), 0);
        DUE.is("6 beside nobody", x.sounds(64 + 32, 64), 1);
        DUE.is("3 beside 5, who is wrong", x.sounds(32 + 8, 32 + 8 + 128), 1);
        DUE.is("3 beside 5, who is right", x.sounds(32 + 8, 8 + 64 + 128), 0);
        DUE.is("0 beside 3", x.sounds(8 + 1, 1), 0);
        // the first of the WEIGHT 8 with 7: 2 * 2 * 2
        DUE.is("LIKELIEST", x.likeliest(), 138);
        DUE.is("HEARINGS go on", x.heard(32, 1), 7);
    }

    private static String seen(OnlyMovesHisLips x) {
        StringBuilder t = new StringBuilder();
        for (int what = 0; what <= 7; what++) {
            t.append(x.status(what)).append(' ');
        }
        for (int i = 0; i < x.status(0); i++) {
            for (int what = 0; what <= 4; what++) {
                t.append(x.singerOf(i, what)).append(' ');
            }
        }
        for (int i = 0; i < x.known(-1); i++) {
            t.append(x.known(i)).append(' ');
        }
        for (int i = 0; i < x.worlds(1); i++) {
            t.append(x.world(i)).append(' ');
        }
        return t.append(x.next()).append(' ').append(x.sounds(3, 1)).append(' ').append(x.quiet()).toString();
    }

    private static void restoreLeavesOut() {
        DUE.sentence("all but SHELVES (and THE IMAGE, REFUSALS, the FAULT, THE TRACE)");
        OnlyMovesHisLips x = Due.choir(0, 1);
        Due.row(x, 0, 4);
        x.image();
        Due.row(x, 0, 5, 6);
        Due.loft(x, "mist");
        x.act(1, 0, 1);
        x.world(9);
        x.restore();
        DUE.is("a ROW", x.element(0, 1), 6);
        DUE.is("the FAULT", x.fault(), 1);
        DUE.is("THE TRACE", x.trace(0), 20);
        DUE.is("bodies", x.status(8), 2);
        DUE.is("REFUSALS -5", x.status(15), 1);
        DUE.is("REFUSALS -6", x.status(16), 1);
    }

    private static void shelvesAtTheEdgeOfTheImage() {
        DUE.sentence("SHELVES with SINGERS hold those of these numbers, or NOTHING");
        OnlyMovesHisLips x = Due.choir(0, 0);
        x.image();
        x.singer(0, 0, 1);
        x.singer(0, 0, 1);
        for (int i = 0; i < 4; i++) {
            x.show(i, i);
            x.show(4 + i, i);
        }
        Due.row(x, 7, 9);
        DUE.is("restore()", x.restore(), 2);
        int[] hold = {0, 1, -1, -1, 0, 1, -1, 102};
        for (int s = 0; s < 8; s++) {
            DUE.is("holds(" + s + ")", x.holds(s), hold[s]);
        }
        x.singer(0, 0, 1);
        DUE.is("he who comes isn't on it", x.holds(2), -1);
        OnlyMovesHisLips other = new OnlyMovesHisLips();
        other.singer(1, 5, 1);
        other.image();
        other.singer(4, 6, 1);
        other.swap(0, 1);
        other.show(0, 0);
        DUE.is("his PLACE", other.says(0, 0), 1);
        other.restore();
        DUE.is("his PLACE then", other.says(0, 0), 0);
    }

    private static void shelvesWithoutSingers() {
        DUE.sentence("SHELVES .. or NOTHING: an IMAGE without SINGERS");
        OnlyMovesHisLips x = new OnlyMovesHisLips();
        x.image();
        x.singer(0, 0, 1);
        for (int s = 0; s < 8; s++) {
            x.show(s, 0);
        }
        x.row(3, 0, 2);
        DUE.is("restore()", x.restore(), 0);
        for (int s = 0; s < 8; s++) {
            DUE.is("holds(" + s + ")", x.holds(s), s == 3 ? 100 : -1);
        }
        DUE.is("says", x.says(0, 0), -3);
    }

    private static void statusAtTheEnds() {
        DUE.sentence("status: NONE for another what");
        OnlyMovesHisLips x = Scenes.busy();
        int[] status = {3, 2, 2, 1, 10, 2, 6, 77, 6};
        for (int what = 0; what < status.length; what++) {
            DUE.is("status(" + what + ")", x.status(what), status[what]);
        }
        for (int what : new int[] {-1, 9, 10, 18, 19, MIN, MAX, MIN + 11, MAX - 10}) {
            DUE.is("status(" + what + ")", x.status(what), -1);
        }
        for (int what = 11; what <= 17; what++) {
            DUE.is("status(" + what + ")", x.status(what), 1);
        }
    }

    private static void eachRefusalIsCounted() {
        DUE.sentence("11 to 17: REFUSALS -1 to -7");
        OnlyMovesHisLips x = Due.choir(0);
        x.show(0, 0);
        for (int times = 1; times <= 3; times++) {
            x.row(8, 0, 0);
            x.loft(0);
            x.loft(1);
            x.row(1, 0, -1);
            x.world(1);
            x.restore();
            x.row(1, 0, 161);
            for (int what = 11; what <= 17; what++) {
                DUE.is("status(" + what + ")", x.status(what), times);
            }
        }
        x.judge(8, 0);
        x.judge(0, 0);
        x.judge(1, 0);
        x.row(1, 0, 40);
        x.judge(1, -1);
        x.judge(1, 41);
        x.judge(1, 33);
        for (int what = 11; what <= 16; what++) {
            DUE.is("judge() is counted as the others are: status(" + what + ")", x.status(what), 4);
        }
        DUE.is("status(17)", x.status(17), 3);
    }

    private static void statusOfAllBodies() {
        DUE.sentence("8 bodies that ran in the latest act() (all, kept or not)");
        OnlyMovesHisLips x = Due.choir(0, 6);
        DUE.is("none yet", x.status(8), 0);
        x.act(1, 2, 1);
        DUE.is("ten", x.status(8), 10);
        x.act(0, 0, 1);
        DUE.is("one", x.status(8), 1);
        x.act(0, 9, 1);
        DUE.is("none", x.status(8), 0);
    }

    private static void statusIsNotRefused() {
        DUE.sentence("status: NONE isn't a REFUSAL");
        OnlyMovesHisLips x = new OnlyMovesHisLips();
        x.status(-1);
        x.status(18);
        for (int what = 11; what <= 17; what++) {
            DUE.is("status(" + what + ")", x.status(what), 0);
        }
    }

    private static void fiveHundredAndTwelveCalls() {
        DUE.sentence("An object is used for at most 512 calls after it has been made");
        OnlyMovesHisLips x = Scenes.empty();
        for (int i = 0; i < 3; i++) {
            x.singer(0, 0, 1);
        }
        for (int i = 3; i < 508; i++) {
            x.restore();
        }
        DUE.is("the 509th", x.status(16), 505);
        DUE.is("the 510th", x.evenings(20) > 19 ? 1 : 0, 1);
        DUE.is("the 511th", x.singer(0, 0, 1), 3);
        DUE.is("the 512th", x.next(), 3);
    }

    private static void objectsApart() {
        DUE.sentence("A new object: what another has isn't its own");
        OnlyMovesHisLips x = Scenes.busy();
        String before = Look.of(new OnlyMovesHisLips());
        x.evenings(3);
        x.image();
        DUE.same("a new one", Look.of(new OnlyMovesHisLips()), before);
        DUE.is("and no IMAGE", new OnlyMovesHisLips().restore(), -6);
    }
}
