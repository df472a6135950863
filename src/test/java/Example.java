/** The example of README.md. ReadmeTest holds both against each other. */
public final class Example {
    public static void main(String[] args) {
        OnlyMovesHisLips loft = new OnlyMovesHisLips();

        // A LOFT read from a text in SHELF 0: a SINGER, a LEANER, a HIDER, a SINGER, one or two of them wrong.
        say("items", tell(loft, 0, "singer 0 0 1;singer 1 0 2;singer 2 1 3;singer 0 0 4;most 2"));
        say("worlds", loft.worlds(0));

        // The best set to hear next, as bits. It sounds right: so many WORLDS are POSSIBLE then.
        int set = loft.next();
        say("next", set);
        say("heard", loft.heard(set, 0));
        say("may", loft.may(0));
        say("likeliest", loft.likeliest());
        say("mean", loft.by(1));

        // A told evening in SHELF 1, sets and sounds by turns: 3 alone sounds wrong, 1 alone doesn't.
        loft.row(1, 2, 4);
        loft.set(1, 0, 8);
        loft.set(1, 1, 1);
        loft.set(1, 2, 2);
        loft.set(1, 3, 0);
        say("judge", loft.judge(1, 4));
        say("behind", loft.behind(1, 4));

        // What can't be met is refused by a number, and counted.
        say("heard", loft.heard(16, 1));
        say("refused", loft.status(16));
        say("text", tell(loft, 0, "most 4"));
        say("fault", loft.fault());
    }

    private static int tell(OnlyMovesHisLips loft, int shelf, String text) {
        loft.row(shelf, 0, text.length());
        for (int i = 0; i < text.length(); i++) {
            loft.set(shelf, i, text.charAt(i));
        }
        return loft.loft(shelf);
    }

    private static void say(String what, int answer) {
        System.out.println(what + " " + answer);
    }
}
