/** Promises 26 to 29: sets TOLD AHEAD, told evenings, BY EAR. */
public final class ToldTest {
    private static final Due DUE = new Due("ToldTest");

    public static void main(String[] args) {
        ahead();
        aheadIsRefused();
        judge();
        judgeIsRefused();
        judgeByLaw();
        behind();
        behindIsRefused();
        byEar();
        byEarIsCut();
        byEarIsRefused();
        elementsAsInts();
        DUE.end();
    }

    private static OnlyMovesHisLips three() {
        OnlyMovesHisLips x = new OnlyMovesHisLips();
        for (int odds = 1; odds <= 3; odds++) {
            x.singer(0, 0, odds);
        }
        return x;
    }

    private static void ahead(OnlyMovesHisLips x, int n, int rows, int alike) {
        DUE.is("ahead(0, " + n + ", 0)", x.ahead(0, n, 0), rows);
        DUE.is("ahead(0, " + n + ", 1)", x.ahead(0, n, 1), alike);
    }

    private static void ahead() {
        OnlyMovesHisLips x = three();
        Due.row(x, 0, 3, 3, 6, 7);
        ahead(x, 0, 1, 3);
        ahead(x, 1, 2, 2);
        ahead(x, 2, 2, 2);
        ahead(x, 3, 3, 1);
        ahead(x, 4, 3, 1);
        x.ask(1, 3);
        ahead(x, 3, 3, 1);
        x.heard(1, 0);
        ahead(x, 0, 1, 2);
        ahead(x, 1, 2, 1);
        x.hear(7);
        x.heard(2, 0);
        ahead(x, 3, 1, 1);
        OnlyMovesHisLips none = Due.choir(0, 0);
        none.heard(1, 0);
        none.hear(1);
        Due.row(none, 0, 1);
        ahead(none, 1, 0, 0);
        ahead(none, 0, 0, 0);
        OnlyMovesHisLips many = Due.choir(0, 0, 0, 0, 0, 0, 0, 0);
        many.ask(0, 3);
        Due.row(many, 0, 1, 2, 4, 8, 16, 32, 64, 128, 1, 1, 1, 1, 1, 1, 1, 255, 1);
        ahead(many, 16, 92, 1);
        ahead(many, 7, 1 + 7 + 21 + 35, 2);
        ahead(many, 1, 2, 7 + 21 + 35);
    }

    private static void aheadIsRefused() {
        OnlyMovesHisLips x = three();
        Due.row(x, 0, 1, 1, 1, 1, 1, 1, 1, 1, 1, 1, 1, 1, 1, 1, 1, 1, 1, 0);
        x.show(1, 0);
        DUE.is("no SHELF", x.ahead(8, -1, 2), -1);
        DUE.is("a SINGER", x.ahead(1, -1, 2), -2);
        DUE.is("NOTHING", x.ahead(2, -1, 2), -3);
        DUE.is("n below 0", x.ahead(0, -1, 2), -4);
        DUE.is("fewer elements", x.ahead(0, 19, 0), -5);
        DUE.is("another what", x.ahead(0, 17, 2), -5);
        DUE.is("another what below", x.ahead(0, 1, -1), -5);
        DUE.is("n above 16", x.ahead(0, 17, 0), -6);
        DUE.is("16", x.ahead(0, 16, 0), 2);
        for (long no : new long[] {0, 8, -1, 256}) {
            x.set(0, 3, no);
            DUE.is("no set " + no, x.ahead(0, 4, 1), -6);
            DUE.is("not among them", x.ahead(0, 3, 1), 2);
        }
        int[] refused = {1, 1, 1, 1, 3, 5, 0};
        for (int i = 0; i < 7; i++) {
            DUE.is("status(" + (11 + i) + ")", x.status(11 + i), refused[i]);
        }
    }

    private static void judge(OnlyMovesHisLips x, int wrong, long... row) {
        Due.row(x, 0, row);
        DUE.is("judge of " + java.util.Arrays.toString(row), x.judge(0, row.length), wrong);
    }

    private static void judge() {
        OnlyMovesHisLips x = three();
        judge(x, -1);
        judge(x, -1, 1);
        judge(x, -1, 1, 1);
        judge(x, -1, 1, 0, 2, 0, 4, 1);
        judge(x, -1, 1, 0, 1, 0);
        judge(x, 5, 1, 0, 2, 0, 4, 0);
        judge(x, 3, 1, 1, 2, 1);
        judge(x, 3, 1, 0, 1, 1, 0);
        judge(x, 1, 7, 0);
        judge(x, 1, 1, 2);
        judge(x, 1, 1, -1);
        judge(x, 0, 0);
        judge(x, 0, 8, 1);
        judge(x, 0, -1, 1);
        judge(x, 2, 1, 1, 0, 1);
        x.heard(1, 0);
        judge(x, 1, 1, 1);
        judge(x, -1, 2, 1);
        DUE.is("nothing is KNOWN by it", x.known(-1), 1);
        Due.row(x, 0, 2, 1, 0, 0);
        DUE.is("the first n alone", x.judge(0, 2), -1);
        long[] long32 = new long[32];
        for (int i = 0; i < 32; i += 2) {
            long32[i] = 6;
            long32[i + 1] = 1;
        }
        judge(x, -1, long32);
        long32[31] = 0;
        judge(x, 31, long32);
        judge(new OnlyMovesHisLips(), 0, 1);
        judge(new OnlyMovesHisLips(), -1);
    }

    private static void judgeIsRefused() {
        OnlyMovesHisLips x = three();
        x.row(0, 2, 40);
        x.show(1, 0);
        DUE.is("no SHELF", x.judge(8, -1), -11);
        DUE.is("a SINGER", x.judge(1, -1), -12);
        DUE.is("NOTHING", x.judge(2, -1), -13);
        DUE.is("n below 0", x.judge(0, -1), -14);
        DUE.is("fewer elements", x.judge(0, 41), -15);
        DUE.is("n above 32", x.judge(0, 33), -16);
        DUE.is("32", x.judge(0, 32), 0);
        int[] refused = {1, 1, 1, 1, 1, 1, 0};
        for (int i = 0; i < 7; i++) {
            DUE.is("status(" + (11 + i) + ")", x.status(11 + i), refused[i]);
        }
    }

    private static void judgeByLaw() {
        OnlyMovesHisLips x = three();
        x.ask(1, 2);
        judge(x, 0, 1, 1);
        judge(x, 2, 3, 1, 2, 1);
        x.ask(2, 1);
        judge(x, 0, 5, 1);
        judge(x, -1, 3, 1);
        x.swap(1, 2);
        judge(x, -1, 5, 1);
        judge(x, 0, 3, 1);
    }

    private static void behind() {
        OnlyMovesHisLips x = three();
        Due.row(x, 0, 1, 0, 2, 0);
        DUE.is("none", x.behind(0, 0), 3);
        DUE.is("one", x.behind(0, 2), 2);
        DUE.is("two", x.behind(0, 4), 1);
        x.heard(4, 0);
        DUE.is("by what is KNOWN", x.behind(0, 2), 1);
        DUE.is("WRONG then", x.behind(0, 4), -6);
        DUE.is("nothing is KNOWN by it", x.known(-1), 1);
        OnlyMovesHisLips none = Due.choir(0, 0);
        none.heard(1, 0);
        none.hear(1);
        none.row(0, 0, 0);
        DUE.is("none POSSIBLE", none.behind(0, 0), 0);
        OnlyMovesHisLips empty = new OnlyMovesHisLips();
        empty.row(0, 0, 0);
        DUE.is("no SINGERS", empty.behind(0, 0), 0);
    }

    private static void behindIsRefused() {
        OnlyMovesHisLips x = three();
        Due.row(x, 0, 1, 0, 2, 0, 7);
        x.show(1, 0);
        x.row(3, 0, 40);
        DUE.is("no SHELF", x.behind(-1, -1), -1);
        DUE.is("a SINGER", x.behind(1, -1), -2);
        DUE.is("NOTHING", x.behind(2, -1), -3);
        DUE.is("n below 0", x.behind(0, -2), -4);
        DUE.is("fewer elements", x.behind(0, 6), -5);
        DUE.is("n odd", x.behind(0, 3), -6);
        DUE.is("n above 32", x.behind(3, 34), -6);
        DUE.is("WRONG", x.behind(3, 2), -6);
        x.ask(1, 2);
        DUE.is("WRONG by LAW", x.behind(0, 2), -6);
        int[] refused = {1, 1, 1, 1, 1, 4, 0};
        for (int i = 0; i < 7; i++) {
            DUE.is("status(" + (11 + i) + ")", x.status(11 + i), refused[i]);
        }
    }

    private static void ear(OnlyMovesHisLips x, int world, long... row) {
        Due.row(x, 0, row);
        DUE.is("byEar of " + java.util.Arrays.toString(row), x.byEar(0, row.length), world);
    }

    private static void byEar() {
        OnlyMovesHisLips x = three();
        ear(x, 4);
        ear(x, 1, 1, 1);
        ear(x, 4, 1, 0);
        ear(x, 2, 1, 0, 4, 0);
        // nothing is left of any: the first
        ear(x, 1, 1, 1, 2, 1);
        x.ask(3, 10);
        // 9000 * .1, 2000 * .9, 3000 * .1
        ear(x, 2, 1, 1, 2, 1);
        // 9000, 2000, 3000
        ear(x, 1, 1, 1);
        x.ask(3, 30);
        // 7000, 6000, 9000
        ear(x, 4, 1, 1);
        x.heard(4, 0);
        x.ask(1, 3);
        ear(x, 4, 1, 1);
        x.ask(3, 50);
        ear(x, 4, 1, 1, 1, 1, 1, 1);
        x.ask(0, 2);
        // 6 weighs most
        ear(x, 6);
        OnlyMovesHisLips same = Due.choir(0, 0, 0);
        ear(same, 1);
        ear(same, 1, 7, 1);
        long[] row = new long[32];
        for (int i = 0; i < 32; i += 2) {
            row[i] = 2;
            row[i + 1] = 1;
        }
        ear(same, 2, row);
    }

    private static void byEarIsCut() {
        OnlyMovesHisLips x = three();
        x.ask(3, 50);
        long[] row = new long[32];
        for (int i = 0; i < 32; i += 2) {
            row[i] = 7;
            row[i + 1] = 1;
        }
        // 30000 halved 16 times is nothing, as are the others
        ear(x, 1, row);
        // 10000, 20000, 30000 halved 14 times: 0, 1, 1
        Due.row(x, 0, row);
        DUE.is("halved 14 times", x.byEar(0, 28), 2);
        DUE.is("halved 13 times", x.byEar(0, 26), 4);
    }

    private static void byEarIsRefused() {
        OnlyMovesHisLips empty = new OnlyMovesHisLips();
        empty.row(0, 0, 3);
        DUE.is("no SINGERS", empty.byEar(0, 1), -5);
        DUE.is("no SINGERS, n below 0", empty.byEar(0, -1), -4);
        OnlyMovesHisLips x = three();
        Due.row(x, 0, 1, 0, 2, 0, 7);
        x.show(1, 0);
        x.row(3, 0, 40);
        DUE.is("no SHELF", x.byEar(8, -1), -1);
        DUE.is("a SINGER", x.byEar(1, -1), -2);
        DUE.is("NOTHING", x.byEar(2, -1), -3);
        DUE.is("n below 0", x.byEar(0, -2), -4);
        DUE.is("fewer elements", x.byEar(0, 6), -5);
        DUE.is("n odd", x.byEar(0, 3), -6);
        DUE.is("n above 32", x.byEar(3, 34), -6);
        DUE.is("no sets", x.byEar(3, 2), -6);
        Due.row(x, 0, 1, 2);
        DUE.is("no sounds", x.byEar(0, 2), -6);
        Due.row(x, 0, 1, 1, 8, 1);
        DUE.is("others than there are", x.byEar(0, 4), -6);
        x.ask(1, 2);
        DUE.is("not LAWFUL", x.byEar(0, 2), 1);
        int[] refused = {1, 1, 1, 1, 1, 5, 0};
        for (int i = 0; i < 7; i++) {
            DUE.is("status(" + (11 + i) + ")", x.status(11 + i), refused[i]);
        }
    }

    private static void elementsAsInts() {
        OnlyMovesHisLips x = Due.choir(0, 0, 0, 0, 0, 0, 0, 0);
        x.row(0, 0, 2);
        x.set(0, 0, 255);
        x.set(0, 1, 1);
        DUE.is("255 is no byte", x.judge(0, 2), 0);
        DUE.is("255 is no byte, ahead", x.ahead(0, 1, 0), -6);
        x.row(0, 1, 2);
        x.set(0, 0, 255);
        x.set(0, 1, 1);
        DUE.is("255 is a short", x.judge(0, 2), -1);
        x.row(0, 3, 2);
        x.set(0, 0, (7L << 32) + 15);
        x.set(0, 1, 1L << 32);
        DUE.is("the lowest 32 bits of longs", x.behind(0, 2), 4);
        DUE.is("ahead", x.ahead(0, 1, 1), 4);
        DUE.is("byEar", x.byEar(0, 2), 16);
    }
}
