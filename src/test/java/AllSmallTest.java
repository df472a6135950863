/** All choirs of up to three SINGERS, and all texts that differ from some in one letter, held against the Model. */
public final class AllSmallTest {
    private static final Due DUE = new Due("AllSmallTest");
    private static final int KINDS = 7;
    private static final int[][] CHANGES = {{}, {0, 1}, {0, 2}, {1, 2}, {0, 1, 0, 2}, {0, 2, 0, 1}};
    private static final String[] TEXTS = {
        "singer 3 9 1;most 2;least 3", "heard 3 1;near 1;ear 50", "swap 0 1;heard 1 0;heard 2 0", "most 3;heard 007 1;swap 1 02"
    };
    private static final String SIGNS = " ;0123456789singermoltwaphdx";

    public static void main(String[] args) {
        for (int n = 1; n <= 3; n++) {
            int many = n == 1 ? KINDS : n == 2 ? KINDS * KINDS : KINDS * KINDS * KINDS;
            for (int kinds = 0; kinds < many && !DUE.hasWrong(); kinds++) {
                for (int change = 0; change < (n == 1 ? 1 : n == 2 ? 2 : CHANGES.length); change++) {
                    choir(n, kinds, change, 0);
                    choir(n, kinds, change, 1);
                }
            }
        }
        for (String text : TEXTS) {
            texts(text);
        }
        DUE.end();
    }

    private static void choir(int n, int kinds, int change, int a) {
        OnlyMovesHisLips x = new OnlyMovesHisLips();
        Model m = new Model();
        int left = kinds;
        for (int i = 0; i < n; i++) {
            x.singer(left % KINDS, a, i + 1);
            m.singer(left % KINDS, a, i + 1);
            left /= KINDS;
        }
        x.ask(0, 3);
        m.ask(0, 3);
        for (int i = 0; i < CHANGES[change].length; i += 2) {
            x.swap(CHANGES[change][i], CHANGES[change][i + 1]);
            m.swap(CHANGES[change][i], CHANGES[change][i + 1]);
        }
        String of = n + " SINGERS " + kinds + ", change " + change + ", a " + a + ": ";
        for (int set = 1; set < 1 << n; set++) {
            for (int world = 1; world < 1 << n; world++) {
                DUE.is(of + "sounds(" + set + ", " + world + ")", x.sounds(set, world), m.sounds(set, world));
            }
        }
        for (int law = 0; law < 4; law++) {
            x.ask(1, 1 + law / 2);
            m.ask(1, 1 + law / 2);
            x.ask(2, law % 2);
            m.ask(2, law % 2);
            said(of + "law " + law + ": ", x, m, n);
        }
        places(of, x, m, n);
    }

    private static void said(String of, OnlyMovesHisLips x, Model m, int n) {
        for (int set = 1; set < 1 << n; set++) {
            DUE.is(of + "lawful(" + set + ")", x.lawful(set), m.lawful(set));
        }
        DUE.is(of + "next()", x.next(), m.next());
        for (int what = 0; what < 3; what++) {
            DUE.is(of + "by(" + what + ")", x.by(what), m.by(what));
        }
    }

    private static void places(String of, OnlyMovesHisLips x, Model m, int n) {
        DUE.is(of + "quiet()", x.quiet(), m.quiet());
        for (int world = 1; world < 1 << n; world++) {
            DUE.is(of + "isTrue(" + world + ")", x.isTrue(world), m.isTrue(world));
            DUE.is(of + "beside(), " + world + " is TRUE", x.beside(), m.beside());
        }
        for (int singer = 0; singer < n; singer++) {
            for (int act = 0; act < 3; act++) {
                DUE.is(of + "act(" + singer + ", " + act + ")", x.act(singer, act, 9), m.act(singer, act, 9));
            }
        }
    }

    private static void texts(String text) {
        for (int at = 0; at <= text.length(); at++) {
            for (int i = 0; i < SIGNS.length(); i++) {
                char sign = SIGNS.charAt(i);
                text(text.substring(0, at) + sign + text.substring(at));
                if (at < text.length()) {
                    text(text.substring(0, at) + sign + text.substring(at + 1));
                    text(text.substring(0, at) + sign);
                }
            }
            text(text.substring(0, at) + text.substring(Math.min(at + 1, text.length())));
        }
    }

    private static void text(String text) {
        OnlyMovesHisLips x = Due.choir(0, 1, 0);
        Model m = new Model();
        m.singer(0, 0, 1);
        m.singer(1, 0, 1);
        m.singer(0, 0, 1);
        Due.text(x, 0, 0, text);
        m.row(0, 0, text.length());
        for (int i = 0; i < text.length(); i++) {
            m.set(0, i, text.charAt(i));
        }
        DUE.is("loft of '" + text + "'", x.loft(0), m.loft(0));
        DUE.is("fault of '" + text + "'", x.fault(), m.fault());
        for (int what = 0; what <= 6; what++) {
            DUE.is("status(" + what + ") after '" + text + "'", x.status(what), m.status(what));
        }
    }
}
