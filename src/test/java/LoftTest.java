/** Promises 12 and 13: LOFTS read from texts, and FAULTS. */
public final class LoftTest {
    private static final Due DUE = new Due("LoftTest");

    public static void main(String[] args) {
        whatStands();
        refusals();
        faultsOfLetters();
        faultsOfNumbers();
        faultsOfSets();
        noRoomForSingers();
        noRoomForHearings();
        allOrNothing();
        changesForget();
        lettersOfAllSorts();
        theLatestFault();
        DUE.end();
    }

    private static void whatStands() {
        OnlyMovesHisLips x = new OnlyMovesHisLips();
        DUE.is("one", Due.loft(x, "singer 1 2 3"), 1);
        DUE.is("KIND", x.singerOf(0, 0), 1);
        DUE.is("a", x.singerOf(0, 1), 2);
        DUE.is("ODDS", x.singerOf(0, 2), 3);
        DUE.is("many", Due.loft(x, "singer 006 09 001;most 3;least 02;near 1;ear 050;swap 1 0;heard 3 0"), 7);
        int[] stands = {2, 3, 2, 1, 50, 1};
        for (int what = 0; what < 6; what++) {
            DUE.is("status(" + what + ")", x.status(what), stands[what]);
        }
        DUE.is("KIND", x.singerOf(1, 0), 6);
        DUE.is("PLACE", x.singerOf(1, 3), 0);
        DUE.is("KNOWN", x.known(0), 6);
        DUE.is("a hearing twice", Due.loft(x, "heard 3 0;heard 3 0"), 2);
        DUE.is("is KNOWN once", x.known(-1), 1);
        DUE.is("fault()", x.fault(), -1);
    }

    private static void refusals() {
        OnlyMovesHisLips x = Due.choir(0);
        x.show(1, 0);
        DUE.is("no SHELF", x.loft(8), -1);
        DUE.is("no SHELF below", x.loft(-1), -1);
        DUE.is("a SINGER", x.loft(1), -2);
        DUE.is("NOTHING", x.loft(2), -3);
        DUE.is("no FAULT yet", x.fault(), -1);
        DUE.is("a FAULT", Due.loft(x, "mist"), -6);
        DUE.is("its place", x.fault(), 1);
        int[] refused = {2, 1, 1, 0, 0, 1, 0};
        for (int i = 0; i < 7; i++) {
            DUE.is("status(" + (11 + i) + ")", x.status(11 + i), refused[i]);
        }
    }

    private static void fault(OnlyMovesHisLips x, String text, int place) {
        DUE.is("'" + text + "'", Due.loft(x, text), -6);
        DUE.is("FAULT of '" + text + "'", x.fault(), place);
    }

    private static void faultsOfLetters() {
        OnlyMovesHisLips x = new OnlyMovesHisLips();
        fault(x, "", 0);
        fault(x, " ", 0);
        fault(x, ";", 0);
        fault(x, "1", 0);
        fault(x, "Singer 0 0 1", 0);
        fault(x, "s", 1);
        fault(x, "sx", 1);
        fault(x, "sip", 2);
        fault(x, "swan 0 1", 3);
        fault(x, "singer", 6);
        fault(x, "singer0", 6);
        fault(x, "singers 0 0 1", 6);
        fault(x, "singer ", 7);
        fault(x, "singer  0 0 1", 7);
        fault(x, "singer x", 7);
        fault(x, "singer -1 0 1", 7);
        fault(x, "singer 0", 8);
        fault(x, "singer 0,0", 8);
        fault(x, "singer 0 0", 10);
        fault(x, "singer 0 0;", 10);
        fault(x, "singer 0 0 ", 11);
        fault(x, "singer 0 0 1 ", 12);
        fault(x, "singer 0 0 1 1", 12);
        fault(x, "singer 0 0 1;", 13);
        fault(x, "singer 0 0 1;;", 13);
        fault(x, "singer 0 0 1; most 1", 13);
        fault(x, "singer 0 0 1,most 1", 12);
        fault(x, "m", 1);
        fault(x, "mast", 1);
        fault(x, "mos", 3);
        fault(x, "most", 4);
        fault(x, "lost", 1);
        fault(x, "leas", 4);
        fault(x, "nea", 3);
        fault(x, "neat", 3);
        fault(x, "ea", 2);
        fault(x, "ears", 3);
        fault(x, "hea", 3);
        fault(x, "hearing", 4);
        fault(x, "near 1;", 7);
        fault(x, "near 1;x", 7);
        fault(x, "near 1;ne", 9);
    }

    private static void faultsOfNumbers() {
        OnlyMovesHisLips x = new OnlyMovesHisLips();
        fault(x, "singer 7 0 1", 7);
        fault(x, "singer 12", 7);
        fault(x, "singer 123", 7);
        fault(x, "singer 1234", 7);
        fault(x, "singer 0000 0 1", 10);
        fault(x, "singer 0 10 1", 9);
        fault(x, "singer 0 0 0", 11);
        fault(x, "singer 0 0 10", 11);
        fault(x, "singer 0 0 0001", 11);
        fault(x, "singer 0 0 0011", 14);
        fault(x, "most 0", 5);
        fault(x, "most 4", 5);
        fault(x, "most 2;most 04", 12);
        fault(x, "least 0", 6);
        fault(x, "least 9", 6);
        fault(x, "near 2", 5);
        fault(x, "ear 51", 4);
        fault(x, "ear 051", 4);
        fault(x, "ear 0500", 7);
        fault(x, "ear 510", 4);
        fault(x, "swap 0 1", 5);
        fault(x, "heard 1 1", 6);
        x.singer(0, 0, 1);
        fault(x, "swap 0 0", 7);
        fault(x, "swap 0 1", 7);
        fault(x, "swap 1 0", 5);
        x.singer(0, 0, 1);
        fault(x, "swap 1 1", 7);
        fault(x, "swap 01 001", 8);
        DUE.is("two that differ", Due.loft(x, "swap 1 0"), 1);
    }

    private static void faultsOfSets() {
        OnlyMovesHisLips x = Due.choir(0, 0);
        fault(x, "heard 0 1", 6);
        fault(x, "heard 000 1", 6);
        fault(x, "heard 4 1", 6);
        fault(x, "heard 999 1", 6);
        fault(x, "heard 1 2", 8);
        fault(x, "heard 1 10", 8);
        fault(x, "heard 3 0", 8);
        fault(x, "heard 1 1;heard 1 0", 18);
        fault(x, "heard 1 1;heard 02 01", 19);
        DUE.is("what one sounds like", Due.loft(x, "heard 1 1;heard 2 0"), 2);
        DUE.is("POSSIBLE", x.world(0), 1);
        fault(x, "heard 2 1", 8);
        DUE.is("what changes forgets", Due.loft(x, "most 1;heard 2 1"), 2);
        x.hear(2);
        DUE.is("none POSSIBLE", x.worlds(1), 0);
        fault(x, "heard 2 1", 8);
        fault(x, "heard 2 0", 8);
    }

    private static void noRoomForSingers() {
        OnlyMovesHisLips x = Due.choir(0, 0, 0, 0, 0, 0, 0);
        fault(x, "singer 0 0 1;singer 0 0 1", 13);
        fault(x, "singer 0 0 1;singe", 18);
        fault(x, "singer 0 0 1;singex", 18);
        fault(x, "singer 0 0 1;singer", 13);
        DUE.is("the eighth", Due.loft(x, "singer 0 0 1"), 1);
        fault(x, "singer", 0);
        fault(x, "singer 9", 0);
        fault(x, "singe", 5);
        fault(x, "heard 255 0", 10);
        fault(x, "heard 256 1", 6);
        fault(x, "heard 2551 1", 9);
        DUE.is("255", Due.loft(x, "heard 255 1"), 1);
    }

    private static void noRoomForHearings() {
        OnlyMovesHisLips x = Due.choir(0, 0, 0, 0, 0, 0, 0, 0);
        for (int set = 1; set <= 16; set++) {
            DUE.is("hear", x.hear(set), set & 1);
        }
        fault(x, "heard 1 1", 0);
        fault(x, "heard", 0);
        fault(x, "hearing", 4);
        fault(x, "hear", 4);
        fault(x, "ear 0;heard 1 1", 6);
        DUE.is("forgotten ahead", Due.loft(x, "most 1;heard 1 1"), 2);
        for (int set = 10; set <= 16; set++) {
            x.hear(set);
        }
        StringBuilder text = new StringBuilder("heard 2 0");
        for (int set = 3; set <= 9; set++) {
            text.append(";heard ").append(set).append(' ').append(set & 1);
        }
        fault(x, text + ";", text.length() + 1);
        DUE.is("nothing of it is KNOWN", x.known(-1), 8);
        fault(x, text + ";heard 9 1", text.length() + 1);
        DUE.is("up to 16", Due.loft(x, text.toString()), 8);
        DUE.is("are KNOWN", x.known(-1), 16);
        DUE.is("the last of them", x.known(15), 19);
        DUE.is("in order", x.known(8), 4);
        fault(x, "heard 9 1", 0);
        DUE.is("heard() wants no room for what is KNOWN", x.heard(9, 1), 1);
    }

    private static void allOrNothing() {
        OnlyMovesHisLips x = Due.choir(0, 0);
        x.isTrue(2);
        x.hear(1);
        fault(x, "singer 0 0 1;most 2;least 3;near 1;ear 3;swap 0 1;heard 1 1;mis", 61);
        int[] stands = {2, 1, 1, 0, 0, 1, 2};
        for (int what = 0; what < stands.length; what++) {
            DUE.is("status(" + what + ")", x.status(what), stands[what]);
        }
        DUE.is("PLACE", x.singerOf(0, 3), 0);
        DUE.is("KNOWN", x.known(0), 2);
        DUE.is("POSSIBLE", x.worlds(1), 1);
    }

    private static void changesForget() {
        String[] changes = {"singer 0 0 1", "most 1", "swap 0 1"};
        for (String change : changes) {
            OnlyMovesHisLips x = Due.choir(0, 0);
            x.isTrue(2);
            DUE.is(change, Due.loft(x, "heard 1 0;" + change), 2);
            DUE.is(change + ": none KNOWN", x.known(-1), 0);
            DUE.is(change + ": the first is TRUE", x.status(6), 1);
        }
        String[] laws = {"least 2", "near 1", "ear 9", "heard 3 1"};
        for (String law : laws) {
            OnlyMovesHisLips x = Due.choir(0, 0);
            x.isTrue(2);
            DUE.is(law, Due.loft(x, "heard 1 0;" + law), 2);
            DUE.is(law + ": KNOWN", x.known(0), 2);
            DUE.is(law + ": TRUE", x.status(6), 2);
        }
    }

    private static void lettersOfAllSorts() {
        for (int sort = 0; sort < 4; sort++) {
            OnlyMovesHisLips x = new OnlyMovesHisLips();
            Due.text(x, 0, sort, "most 3");
            x.set(0, 0, 'm' + (1L << 32));
            DUE.is("sort " + sort, x.loft(0), 1);
            x.set(0, 1, 'o' + 256L);
            DUE.is("sort " + sort + ", beyond a byte", x.loft(0), sort == 0 ? 1 : -6);
            DUE.is("sort " + sort + ", its FAULT", x.fault(), sort == 0 ? -1 : 1);
        }
        OnlyMovesHisLips x = new OnlyMovesHisLips();
        Due.text(x, 0, 0, "most 3x");
        x.set(0, 6, 255);
        DUE.is("what is no letter isn't the end", x.loft(0), -6);
        DUE.is("its place", x.fault(), 6);
        x.set(0, 6, 0);
        DUE.is("nor is 0", x.loft(0), -6);
    }

    private static void theLatestFault() {
        OnlyMovesHisLips x = new OnlyMovesHisLips();
        fault(x, "most 9", 5);
        x.loft(9);
        DUE.is("loft() that came to no SHELF", x.fault(), 5);
        x.loft(6);
        DUE.is("loft() that came to NOTHING", x.fault(), 5);
        DUE.is("one that stands", Due.loft(x, "most 2"), 1);
        DUE.is("has none", x.fault(), -1);
        fault(x, "", 0);
        x.image();
        x.restore();
        DUE.is("THE IMAGE is not of it", x.fault(), 0);
    }
}
