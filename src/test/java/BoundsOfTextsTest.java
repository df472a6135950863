/** Each sentence that names a bound of LOFTS read from texts, and of FAULTS (promises 12 and 13). */
public final class BoundsOfTextsTest {
    private static final Due DUE = new Due("BoundsOfTextsTest");

    public static void main(String[] args) {
        theEmptyRow();
        oneItem();
        asManyAsARowHolds();
        endsTooEarly();
        anElementTooMany();
        oneBlankBetween();
        oneToThreeDigits();
        aFourthDigit();
        theFirstDigitOfANumberThatMayNotBe();
        numbersOfASinger();
        numbersOfTheLaw();
        setsAndSounds();
        soundsByWhatIsPossible();
        singersWhoSwap();
        swapsTellNumbers();
        noRoomForASinger();
        noRoomForAHearing();
        noRoomThoughItIsKnown();
        roomIsAskedWhenTheLettersStandWhole();
        roomThatTheTextMakes();
        roomThatTheTextTakes();
        lettersOfTheWords();
        lettersAreSmall();
        elementsThatAreNoLetters();
        allOrNothing();
        nothingBehindWhatStood();
        allElseIsToldOver();
        whatATextForgets();
        whatATextLeaves();
        theLatestFault();
        noFaultYet();
        DUE.end();
    }

    private static void stands(OnlyMovesHisLips x, String text, int items) {
        DUE.is("'" + text + "'", Due.loft(x, text), items);
        DUE.is("FAULT of '" + text + "'", x.fault(), -1);
    }

    private static void fault(OnlyMovesHisLips x, String text, int place) {
        DUE.is("'" + text + "'", Due.loft(x, text), -6);
        DUE.is("FAULT of '" + text + "'", x.fault(), place);
    }

    private static void theEmptyRow() {
        DUE.sentence("a ROW of letters: ITEM, then ..: one ITEM at least; (the number of elements, if it ends too early)");
        fault(new OnlyMovesHisLips(), "", 0);
    }

    private static void oneItem() {
        DUE.sentence("loft: how many ITEMS: one");
        stands(new OnlyMovesHisLips(), "most 1", 1);
        stands(new OnlyMovesHisLips(), "ear 0", 1);
    }

    private static String many(int items) {
        StringBuilder t = new StringBuilder("ear 1");
        for (int i = 1; i < items; i++) {
            t.append(";ear ").append(i % 10);
        }
        return t.toString();
    }

    private static void asManyAsARowHolds() {
        DUE.sentence("then any number of times ; and ITEM");
        OnlyMovesHisLips x = Due.choir(0, 0);
        DUE.is("letters of 25", many(25).length(), 149);
        stands(x, many(25), 25);
        DUE.is("EAR", x.status(4), 4);
        stands(x, many(25) + ";swap 00 01", 26);
        DUE.is("160 letters", x.holds(7) == 100 && x.set(7, 160, 0) == -5 ? x.set(7, 159, '1') : 0, 1);
        DUE.is("PLACE", x.singerOf(0, 3), 1);
        stands(x, many(26) + "0", 26);
        DUE.is("EAR", x.status(4), 50);
        fault(x, many(26) + ";ear ", 160);
        fault(x, many(26) + ";nea;", 159);
    }

    private static void endsTooEarly() {
        DUE.sentence("(the number of elements, if it ends too early)");
        String whole = "singer 0 0 1;most 2";
        for (int length = 0; length <= whole.length(); length++) {
            OnlyMovesHisLips x = new OnlyMovesHisLips();
            if (length == 12) {
                stands(x, whole.substring(0, length), 1);
            } else if (length == whole.length()) {
                stands(x, whole, 2);
            } else {
                fault(x, whole.substring(0, length), length);
                DUE.is("nobody came", x.status(0), 0);
            }
        }
        String[] texts = {"least 3", "near 1", "ear 7", "heard 3 1", "swap 0 1"};
        for (String text : texts) {
            OnlyMovesHisLips x = Due.choir(0, 0);
            for (int length = 0; length < text.length(); length++) {
                fault(x, text.substring(0, length), length);
            }
            stands(x, text, 1);
        }
    }

    private static void anElementTooMany() {
        DUE.sentence("the first place at which an element can't stand as such texts go on");
        OnlyMovesHisLips x = Due.choir(0, 0);
        String[] texts = {"most 1", "least 1", "near 0", "ear 0", "heard 3 1", "swap 0 1", "singer 0 0 1"};
        for (String text : texts) {
            fault(x, text + " ", text.length());
            fault(x, text + "x", text.length());
            fault(x, text + ",", text.length());
            fault(x, text + ";", text.length() + 1);
            fault(x, text + ";;", text.length() + 1);
            fault(x, text + "; ", text.length() + 1);
        }
        fault(x, " most 1", 0);
        fault(x, ";most 1", 0);
        stands(x, "most 1;most 1", 2);
    }

    private static void oneBlankBetween() {
        DUE.sentence("One blank between words and NUMBERS");
        OnlyMovesHisLips x = Due.choir(0, 0);
        fault(x, "most  1", 5);
        fault(x, "most1", 4);
        fault(x, "most\t1", 4);
        fault(x, "heard 3  1", 8);
        fault(x, "heard 3,1", 7);
        fault(x, "singer 0  0 1", 9);
        fault(x, "singer 0 0  1", 11);
        fault(x, "most 1 ;most 1", 6);
        fault(x, "most 1; most 1", 7);
    }

    private static void oneToThreeDigits() {
        DUE.sentence("NUMBERS (1 to 3 digits)");
        OnlyMovesHisLips x = Due.choir(0, 0);
        stands(x, "ear 7", 1);
        stands(x, "ear 07", 1);
        stands(x, "ear 007", 1);
        DUE.is("EAR", x.status(4), 7);
        fault(x, "ear ", 4);
        fault(x, "ear ;", 4);
        fault(x, "ear x", 4);
        fault(x, "ear +7", 4);
        fault(x, "ear -7", 4);
        fault(x, "ear 7.", 5);
        stands(x, "heard 003 001", 1);
        stands(x, "swap 000 001", 1);
        stands(x, "singer 006 009 009", 1);
    }

    private static void aFourthDigit() {
        DUE.sentence("a fourth digit can't stand; a NUMBER of three that may not be has its FAULT ahead of it");
        OnlyMovesHisLips x = Due.choir(0, 0);
        fault(x, "ear 0007", 7);
        fault(x, "ear 0500", 7);
        fault(x, "ear 5000", 4);
        fault(x, "heard 0033 1", 9);
        fault(x, "heard 3 0011", 11);
        fault(x, "heard 0003 1", 6);
        fault(x, "heard 3 0001", 8);
        fault(x, "swap 0000 1", 8);
        fault(x, "singer 0000 0 1", 10);
    }

    private static void theFirstDigitOfANumberThatMayNotBe() {
        DUE.sentence("of a NUMBER that may not be the place of its first digit");
        OnlyMovesHisLips x = Due.choir(0, 0);
        fault(x, "ear 51", 4);
        fault(x, "ear 051", 4);
        fault(x, "ear 999", 4);
        fault(x, "ear 51;most 2", 4);
        fault(x, "ear 51x", 4);
        fault(x, "most 2;ear 51", 11);
        stands(x, "ear 50", 1);
        DUE.is("EAR", x.status(4), 50);
    }

    private static void numbersOfASinger() {
        DUE.sentence("singer K A O (KIND, a, ODDS)");
        OnlyMovesHisLips x = new OnlyMovesHisLips();
        fault(x, "singer 7 0 1", 7);
        fault(x, "singer 0 10 1", 9);
        fault(x, "singer 0 0 0", 11);
        fault(x, "singer 0 0 10", 11);
        fault(x, "singer 7 10 0", 7);
        fault(x, "singer 6 10 0", 9);
        stands(x, "singer 6 9 9", 1);
        stands(x, "singer 0 0 1", 1);
        int[][] has = {{6, 9, 9, 0}, {0, 0, 1, 1}};
        for (int i = 0; i < 2; i++) {
            for (int what = 0; what < 4; what++) {
                DUE.is("singerOf(" + i + ", " + what + ")", x.singerOf(i, what), has[i][what]);
            }
        }
    }

    private static void numbersOfTheLaw() {
        DUE.sentence("most N; least N; near N; ear N");
        String[] words = {"most ", "least ", "near ", "ear "};
        int[] fewest = {1, 1, 0, 0};
        int[] greatest = {3, 8, 1, 50};
        for (int what = 0; what < 4; what++) {
            OnlyMovesHisLips x = Due.choir(0, 0);
            int first = words[what].length();
            stands(x, words[what] + greatest[what], 1);
            DUE.is("the greatest", x.status(1 + what), greatest[what]);
            fault(x, words[what] + (greatest[what] + 1), first);
            DUE.is("it stays", x.status(1 + what), greatest[what]);
            stands(x, words[what] + fewest[what], 1);
            DUE.is("the fewest", x.status(1 + what), fewest[what]);
            if (fewest[what] == 1) {
                fault(x, words[what] + "0", first);
            }
        }
    }

    private static void setsAndSounds() {
        DUE.sentence("heard S Y (a set that isn't empty)");
        OnlyMovesHisLips x = Due.choir(0, 0, 0);
        fault(x, "heard 0 1", 6);
        fault(x, "heard 000 0", 6);
        fault(x, "heard 8 1", 6);
        fault(x, "heard 7 2", 8);
        fault(x, "heard 7 9", 8);
        fault(x, "heard 1 2", 8);
        fault(x, "heard 1 10", 8);
        fault(x, "heard 8 2", 6);
        stands(x, "heard 7 1", 1);
        stands(x, "heard 1 0", 1);
        DUE.is("the first", x.known(0), 15);
        DUE.is("the second", x.known(1), 2);
        fault(new OnlyMovesHisLips(), "heard 1 1", 6);
        OnlyMovesHisLips full = Scenes.full();
        fault(full, "heard 256 1", 6);
        stands(full, "heard 255 1", 1);
    }

    private static void soundsByWhatIsPossible() {
        DUE.sentence("KNOWN then, if some POSSIBLE WORLD sounds so; what no POSSIBLE WORLD sounds like: Y");
        OnlyMovesHisLips x = Due.choir(0, 0, 0);
        fault(x, "heard 7 0", 8);
        fault(x, "heard 1 1;heard 6 1", 18);
        DUE.is("nothing of it is KNOWN", x.known(-1), 0);
        stands(x, "heard 1 1;heard 6 0", 2);
        fault(x, "heard 1 0", 8);
        fault(x, "heard 2 001", 8);
        fault(Scenes.impossible(), "heard 1 1", 8);
        fault(Scenes.impossible(), "heard 3 0", 8);
    }

    private static void singersWhoSwap() {
        DUE.sentence("swap P Q: who isn't there; the same SINGER: Q");
        OnlyMovesHisLips x = Due.choir(0, 0, 0);
        fault(x, "swap 3 0", 5);
        fault(x, "swap 0 3", 7);
        fault(x, "swap 3 3", 5);
        fault(x, "swap 0 0", 7);
        fault(x, "swap 2 002", 7);
        fault(x, "swap 999 0", 5);
        stands(x, "swap 0 2", 1);
        stands(x, "swap 2 0", 1);
        fault(new OnlyMovesHisLips(), "swap 0 1", 5);
        fault(Due.choir(0), "swap 0 0", 7);
        fault(Due.choir(0), "swap 0 1", 7);
        stands(new OnlyMovesHisLips(), "singer 0 0 1;singer 0 0 1;swap 0 1", 3);
    }

    private static void swapsTellNumbers() {
        DUE.sentence("swap tells numbers of SINGERS");
        OnlyMovesHisLips x = Due.choir(0, 0, 0);
        stands(x, "swap 0 1;swap 0 2", 2);
        // 1 0 2, then 1 2 0
        int[] places = {2, 0, 1};
        for (int i = 0; i < 3; i++) {
            DUE.is("PLACE of " + i, x.singerOf(i, 3), places[i]);
        }
    }

    private static void noRoomForASinger() {
        DUE.sentence("(what there is no room for can't stand: its word): a SINGER");
        OnlyMovesHisLips x = Due.choir(0, 0, 0, 0, 0, 0, 0);
        stands(x, "singer 0 0 1", 1);
        fault(x, "singer 0 0 1", 0);
        fault(x, "most 1;singer 0 0 1", 7);
        fault(x, "singer 7 0 1", 0);
        fault(x, "singer", 0);
        fault(x, "singer;", 0);
        fault(x, "singerx", 0);
        DUE.is("eight", x.status(0), 8);
    }

    private static void noRoomForAHearing() {
        DUE.sentence("(what there is no room for can't stand: its word): a HEARING");
        OnlyMovesHisLips x = Scenes.sixteen();
        fault(x, "heard 17 1", 0);
        fault(x, "ear 7;heard 17 1", 6);
        fault(x, "heard 0 1", 0);
        fault(x, "heard", 0);
        fault(x, "heard;", 0);
        DUE.is("EAR", x.status(4), 0);
        DUE.is("KNOWN", x.known(-1), 16);
    }

    private static void noRoomThoughItIsKnown() {
        DUE.sentence("heard can not stand when 16 are KNOWN, also if it is one of these");
        OnlyMovesHisLips x = Scenes.sixteen();
        for (int set = 1; set <= 16; set++) {
            fault(x, "heard " + set + " " + (set & 1), 0);
        }
        x.forget();
        for (int set = 1; set <= 15; set++) {
            x.hear(set);
        }
        stands(x, "heard 15 1", 1);
        DUE.is("15 are KNOWN", x.known(-1), 15);
        stands(x, "heard 16 0", 1);
        fault(x, "heard 16 0", 0);
    }

    private static void roomIsAskedWhenTheLettersStandWhole() {
        DUE.sentence("Whether there is room for a word is asked when its letters stand whole: until then the first element "
            + "that is not as it is the FAULT, or the number of elements");
        OnlyMovesHisLips x = Scenes.full();
        fault(x, "s", 1);
        fault(x, "singe", 5);
        fault(x, "singex", 5);
        fault(x, "singe 0 0 1", 5);
        fault(x, "singer", 0);
        fault(x, "most 1;singe", 12);
        fault(x, "most 1;singer", 7);
        OnlyMovesHisLips y = Scenes.sixteen();
        fault(y, "hear", 4);
        fault(y, "hears 1 1", 4);
        fault(y, "heard", 0);
        fault(y, "ear 1;hear", 10);
        fault(y, "ear 1;heard", 6);
    }

    private static void roomThatTheTextMakes() {
        DUE.sentence("room for HEARINGS that the text itself makes");
        String[] making = {"most 1", "swap 0 1", "singer 0 0 1"};
        for (String item : making) {
            OnlyMovesHisLips x = Scenes.sixteen();
            stands(x, item + ";heard 3 1", 2);
            DUE.is("KNOWN", x.known(-1), 1);
            DUE.is("it", x.known(0), 7);
        }
    }

    private static void roomThatTheTextTakes() {
        DUE.sentence("room that the text itself takes");
        OnlyMovesHisLips x = Due.choir(0, 0, 0, 0, 0, 0);
        stands(x, "singer 0 0 1;singer 0 0 1", 2);
        x = Due.choir(0, 0, 0, 0, 0, 0);
        fault(x, "singer 0 0 1;singer 0 0 1;singer 0 0 1", 26);
        DUE.is("six still", x.status(0), 6);
        x = Scenes.sixteen();
        x.forget();
        for (int set = 1; set <= 14; set++) {
            x.hear(set);
        }
        fault(x, "heard 15 1;heard 16 0;heard 17 1", 22);
        DUE.is("14 still", x.known(-1), 14);
        stands(x, "heard 15 1;heard 16 0", 2);
        DUE.is("16 then", x.known(-1), 16);
    }

    private static void lettersOfTheWords() {
        DUE.sentence("each letter of each word");
        String[] texts = {"singer 0 0 1", "most 1", "least 1", "near 0", "ear 0", "heard 1 1", "swap 0 1"};
        for (String text : texts) {
            OnlyMovesHisLips x = Due.choir(0, 0);
            for (int i = 0; i <= text.indexOf(' '); i++) {
                fault(x, text.substring(0, i) + "z" + text.substring(i + 1), i);
                fault(x, text.substring(0, i), i);
            }
            stands(x, text, 1);
        }
        OnlyMovesHisLips x = Due.choir(0, 0);
        fault(x, "siap 0 1", 2);
        fault(x, "swnger 0 0 1", 2);
        fault(x, "seap", 1);
        fault(x, "hear 1 1", 4);
        fault(x, "earn 1", 3);
        fault(x, "nearest 1", 4);
    }

    private static void lettersAreSmall() {
        DUE.sentence("letters are as they stand");
        OnlyMovesHisLips x = Due.choir(0, 0);
        fault(x, "Most 1", 0);
        fault(x, "mosT 1", 3);
        fault(x, "EAR 1", 0);
    }

    private static void elementsThatAreNoLetters() {
        DUE.sentence("a ROW of letters (As ints: of longs the lowest 32 bits.)");
        long[] beyond = {256, 65536, 1L << 32};
        for (int sort = 0; sort <= 3; sort++) {
            for (int b = 0; b < 3; b++) {
                OnlyMovesHisLips x = new OnlyMovesHisLips();
                Due.text(x, 0, sort, "most 3");
                x.set(0, 5, '3' + beyond[b]);
                boolean cut = sort <= b || b == 2;
                DUE.is("SORT " + sort + " with " + beyond[b], x.loft(0), cut ? 1 : -6);
                DUE.is("its FAULT", x.fault(), cut ? -1 : 5);
            }
        }
        for (long sign : new long[] {0, -1, 255, 128, Long.MIN_VALUE, Long.MAX_VALUE}) {
            OnlyMovesHisLips x = new OnlyMovesHisLips();
            Due.text(x, 0, 3, "most 1 ");
            x.set(0, 6, sign);
            DUE.is("an end of " + sign, x.loft(0), -6);
            DUE.is("its FAULT", x.fault(), 6);
            x.set(0, 0, sign);
            DUE.is("a start of " + sign, x.loft(0), -6);
            DUE.is("its FAULT", x.fault(), 0);
        }
    }

    private static void allOrNothing() {
        DUE.sentence("All is told over what there is, or nothing");
        OnlyMovesHisLips x = Due.choir(0, 0);
        x.isTrue(2);
        x.hear(3);
        fault(x, "singer 1 2 3;most 3;least 2;near 1;ear 9;swap 0 2;heard 7 1;heard 8 1", 66);
        int[] status = {2, 1, 1, 0, 0, 1, 2, 1};
        for (int what = 0; what < status.length; what++) {
            DUE.is("status(" + what + ")", x.status(what), status[what]);
        }
        DUE.is("PLACE", x.singerOf(0, 3), 0);
        DUE.is("KNOWN", x.known(0), 7);
        stands(x, "singer 1 2 3;most 3;least 2;near 1;ear 9;swap 0 2;heard 7 1", 7);
        int[] then = {3, 3, 2, 1, 9, 1, 1, 1};
        for (int what = 0; what < then.length; what++) {
            DUE.is("status(" + what + ") then", x.status(what), then[what]);
        }
        DUE.is("PLACE then", x.singerOf(0, 3), 2);
        DUE.is("KNOWN then", x.known(0), 15);
    }

    private static void nothingBehindWhatStood() {
        DUE.sentence("All is told over what there is, or nothing: behind a text that stood");
        OnlyMovesHisLips x = Due.choir(0, 0);
        stands(x, "most 2;ear 7;heard 3 1", 3);
        fault(x, "singer 0 0 1;ear 8;most 1;swap 0 1;?", 35);
        int[] status = {2, 2, 1, 0, 7, 1, 1, 1};
        for (int what = 0; what < status.length; what++) {
            DUE.is("status(" + what + ")", x.status(what), status[what]);
        }
        DUE.is("PLACE", x.singerOf(0, 3), 0);
        stands(x, "least 2", 1);
        fault(x, "least 1;?", 8);
        DUE.is("LEAST", x.status(2), 2);
        DUE.is("KNOWN", x.known(0), 7);
    }

    private static void allElseIsToldOver() {
        DUE.sentence("All is told over what there is: what a text doesn't tell of is as it was");
        OnlyMovesHisLips x = new OnlyMovesHisLips();
        for (int i = 0; i < 8; i++) {
            x.singer(1, 0, 1 + i % 2);
        }
        x.show(0, 7);
        x.show(1, 1);
        x.show(2, 0);
        x.swap(0, 7);
        x.ask(0, 3);
        x.isTrue(224);
        x.hear(128);
        x.seed(5);
        stands(x, "ear 3", 1);
        DUE.is("who is first in the row", x.says(0, 1), -1);
        DUE.is("who is ahead of 1", x.says(1, 1), 7);
        DUE.is("who is ahead of 0", x.says(2, 1), 6);
        // the row: 7 1 2 3 4 5 6 0
        DUE.is("7 is first", x.sounds(192, 224), 1);
        DUE.is("0 leans on 6", x.sounds(65, 1), 0);
        DUE.is("3 leans on 2", x.sounds(12, 8), 0);
        DUE.is("3 leans on 2, who is wrong", x.sounds(12, 14), 1);
        DUE.is("3 leans on 2, who is right", x.sounds(12, 200), 0);
        DUE.is("TRUE", x.status(6), 224);
        DUE.is("SEED", x.status(7), 5);
        DUE.is("POSSIBLE", x.worlds(1), 29);
        DUE.is("the last", x.world(28), 224);
        DUE.is("PARTS", x.parts(128, 0), 29);
        // the first of the WEIGHT 8 with 7: 2 * 2 * 2
        DUE.is("LIKELIEST", x.likeliest(), 138);
    }

    private static void whatATextForgets() {
        DUE.sentence("swap P Q (..; no HEARINGS are KNOWN then); SINGERS and MOST too");
        for (String item : new String[] {"swap 0 1", "most 1", "most 2", "singer 0 0 1"}) {
            OnlyMovesHisLips x = Due.choir(0, 0);
            x.isTrue(2);
            x.hear(2);
            stands(x, item, 1);
            DUE.is(item + ": KNOWN", x.known(-1), 0);
            DUE.is(item + ": TRUE", x.status(6), 1);
            DUE.is(item + ": POSSIBLE", x.worlds(1), x.worlds(0));
        }
    }

    private static void whatATextLeaves() {
        DUE.sentence("least, near, ear and heard leave what is TRUE and KNOWN");
        for (String item : new String[] {"least 2", "near 1", "ear 5", "heard 3 1", "heard 2 1"}) {
            OnlyMovesHisLips x = Due.choir(0, 0);
            x.isTrue(2);
            x.hear(2);
            x.seed(6);
            stands(x, item, 1);
            DUE.is(item + ": KNOWN", x.known(0), 5);
            DUE.is(item + ": TRUE", x.status(6), 2);
            DUE.is(item + ": POSSIBLE", x.worlds(1), 1);
            DUE.is(item + ": SEED", x.status(7), 6);
        }
        OnlyMovesHisLips x = Due.choir(0, 0);
        stands(x, "heard 3 1;heard 003 01", 2);
        DUE.is("not a second time", x.known(-1), 1);
    }

    private static void theLatestFault() {
        DUE.sentence("fault: The FAULT of the latest loft() that came to a ROW");
        OnlyMovesHisLips x = Due.choir(0);
        fault(x, "ear 51", 4);
        x.show(0, 0);
        DUE.is("a SINGER", x.loft(0), -2);
        DUE.is("no ROW", x.fault(), 4);
        DUE.is("NOTHING", x.loft(1), -3);
        DUE.is("no ROW", x.fault(), 4);
        DUE.is("no SHELF", x.loft(8), -1);
        DUE.is("no ROW", x.fault(), 4);
        x.row(2, 3, 0);
        DUE.is("an empty ROW", x.loft(2), -6);
        DUE.is("its FAULT", x.fault(), 0);
        stands(x, "ear 50", 1);
        DUE.is("NOTHING", x.loft(1), -3);
        DUE.is("there was none", x.fault(), -1);
    }

    private static void noFaultYet() {
        DUE.sentence("fault: NONE: there was none, or none yet");
        OnlyMovesHisLips x = new OnlyMovesHisLips();
        DUE.is("a new object", x.fault(), -1);
        x.loft(0);
        x.loft(-1);
        DUE.is("no ROW yet", x.fault(), -1);
    }
}
