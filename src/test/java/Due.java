import java.util.function.BooleanSupplier;

/** Counts the answers that are not as due, and says so at the end. */
final class Due {
    private final String name;
    private String words = "";
    private int sentences = 0;
    private int asked = 0;
    private int wrong = 0;

    Due(String name) {
        this.name = name;
    }

    /** The words of the document that the answers asked from here on are held against. */
    void sentence(String said) {
        sentences++;
        words = " (" + said + ")";
    }

    void is(String call, long got, long want) {
        asked++;
        if (got != want) {
            wrong++;
            System.out.println(name + words + ": " + call + " answered " + got + ", due is " + want);
        }
    }

    void holds(String what, BooleanSupplier test) {
        is(what, test.getAsBoolean() ? 1 : 0, 1);
    }

    void same(String what, String got, String want) {
        asked++;
        if (!got.equals(want)) {
            wrong++;
            System.out.println(name + words + ": " + what + "\n  is  " + got + "\n  due " + want);
        }
    }

    boolean hasWrong() {
        return wrong != 0;
    }

    void end() {
        String of = sentences == 0 ? "" : sentences + " sentences, ";
        System.out.println(name + ": " + of + asked + " answers, " + wrong + " not as due");
        if (wrong != 0) {
            System.exit(1);
        }
    }

    /** A text put into SHELF s as a ROW of a SORT. */
    static void text(OnlyMovesHisLips x, int s, int sort, String text) {
        x.row(s, sort, text.length());
        for (int i = 0; i < text.length(); i++) {
            x.set(s, i, text.charAt(i));
        }
    }

    /** Numbers put into SHELF s as a ROW of ints. */
    static void row(OnlyMovesHisLips x, int s, long... elements) {
        x.row(s, 2, elements.length);
        for (int i = 0; i < elements.length; i++) {
            x.set(s, i, elements[i]);
        }
    }

    /** A text told as a LOFT, by SHELF 7. */
    static int loft(OnlyMovesHisLips x, String text) {
        text(x, 7, 0, text);
        return x.loft(7);
    }

    /** A new object with some SINGERS of kinds as told, a 0 and ODDS 1 each. */
    static OnlyMovesHisLips choir(int... kinds) {
        OnlyMovesHisLips x = new OnlyMovesHisLips();
        for (int kind : kinds) {
            x.singer(kind, 0, 1);
        }
        return x;
    }
}
