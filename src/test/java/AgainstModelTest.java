import java.util.Random;

/** Runs of drawn calls, on the class and on the Model: all answers and all that can be asked of must be alike. */
public final class AgainstModelTest {
    private static final int RUNS = 600;
    private static final int CALLS = 512;

    private final Due due = new Due("AgainstModelTest");
    private final Random draw;
    private final int run;
    private final OnlyMovesHisLips x = new OnlyMovesHisLips();
    private final Model m = new Model();
    private int calls = 0;

    private AgainstModelTest(int run) {
        this.run = run;
        draw = new Random(run * 7919L + 1);
    }

    public static void main(String[] args) {
        int wrongRuns = 0;
        for (int run = 0; run < RUNS && wrongRuns < 3; run++) {
            AgainstModelTest t = new AgainstModelTest(run);
            t.go();
            wrongRuns += t.due.hasWrong() ? 1 : 0;
        }
        System.out.println("AgainstModelTest: " + RUNS + " runs, " + wrongRuns + " not alike");
        if (wrongRuns != 0) {
            System.exit(1);
        }
    }

    private void is(String call, long got, long want) {
        calls++;
        due.is("run " + run + ", call " + calls + ": " + call, got, want);
    }

    private void go() {
        int singers = draw.nextInt(9);
        for (int i = 0; i < singers; i++) {
            addSinger();
        }
        while (calls < CALLS && !due.hasWrong()) {
            step();
            if (draw.nextInt(6) == 0) {
                lookAround();
            }
        }
    }

    private int less(int n) {
        return draw.nextInt(n);
    }

    /** Mostly from 0 to n - 1, now and then beside that, or far from it. */
    private int about(int n) {
        switch (less(25)) {
            case 0:
                return -1 - less(3);
            case 1:
                return n + less(3);
            case 2:
                return less(4) == 0 ? Integer.MIN_VALUE + less(2) : less(4) == 0 ? Integer.MAX_VALUE - less(2) : less(n);
            default:
                return less(n);
        }
    }

    private int aSet() {
        int n = m.status(0);
        if (less(20) == 0) {
            return about(300);
        }
        return n == 0 ? less(4) : less(1 << n);
    }

    private int aWorld() {
        int many = m.worlds(1);
        x.worlds(1);
        return many == 0 || less(3) == 0 ? aSet() & aSet() : look(less(many));
    }

    private int look(int i) {
        x.world(i);
        return m.world(i);
    }

    private void addSinger() {
        int kind = about(7);
        int a = less(3) == 0 ? about(10) : less(4);
        int odds = 1 + about(9);
        is("singer(" + kind + ", " + a + ", " + odds + ")", x.singer(kind, a, odds), m.singer(kind, a, odds));
    }

    private void lookAround() {
        int what = less(22) - 2;
        is("status(" + what + ")", x.status(what), m.status(what));
        int i = less(25) - 2;
        is("trace(" + i + ")", x.trace(i), m.trace(i));
        int s = about(8);
        is("holds(" + s + ")", x.holds(s), m.holds(s));
        int e = about(40);
        is("element(" + s + ", " + e + ")", x.element(s, e), m.element(s, e));
        is("fault()", x.fault(), m.fault());
        int k = about(17) - 1;
        is("known(" + k + ")", x.known(k), m.known(k));
        int singer = about(8);
        int of = about(5);
        is("singerOf(" + singer + ", " + of + ")", x.singerOf(singer, of), m.singerOf(singer, of));
        int w = about(93);
        is("world(" + w + ")", x.world(w), m.world(w));
        int many = about(2);
        is("worlds(" + many + ")", x.worlds(many), m.worlds(many));
    }

    private void step() {
        switch (less(20)) {
            case 0:
            case 1:
                rows();
                break;
            case 2:
                shown();
                break;
            case 3:
                if (less(4) == 0) {
                    addSinger();
                } else {
                    law();
                }
                break;
            case 4:
            case 5:
                text();
                break;
            case 6:
            case 7:
            case 8:
                hearings();
                break;
            case 9:
            case 10:
            case 11:
                said();
                break;
            case 12:
            case 13:
            case 14:
                told();
                break;
            case 15:
                places();
                break;
            case 16:
            case 17:
                truth();
                break;
            case 18:
                acts();
                break;
            default:
                whole();
                break;
        }
    }

    private void put(int s, int i, long v) {
        is("set(" + s + ", " + i + ", " + v + ")", x.set(s, i, v), m.set(s, i, v));
    }

    private void begin(int s, int sort, int n) {
        is("row(" + s + ", " + sort + ", " + n + ")", x.row(s, sort, n), m.row(s, sort, n));
    }

    private void rows() {
        int s = about(8);
        switch (less(3)) {
            case 0:
                begin(s, about(4), less(3) == 0 ? about(161) : about(8));
                break;
            case 1:
                put(s, about(10), less(2) == 0 ? draw.nextLong() : less(600) - 300);
                break;
            default:
                int q = about(8);
                int i = less(2) == 0 ? 0 : about(8);
                int j = less(2) == 0 ? 0 : about(8);
                int n = about(7);
                is("copy(" + s + ", " + q + ", " + i + ", " + j + ", " + n + ")", x.copy(s, q, i, j, n), m.copy(s, q, i, j, n));
                break;
        }
    }

    private void shown() {
        int s = about(8);
        if (less(2) == 0) {
            int singer = less(5) == 0 ? -1 : about(8);
            is("show(" + s + ", " + singer + ")", x.show(s, singer), m.show(s, singer));
        }
        for (int n = 0; n < 3; n++) {
            int kind = about(7);
            is("says(" + s + ", " + kind + ")", x.says(s, kind), m.says(s, kind));
        }
    }

    private void law() {
        int what = about(4);
        int v = less(3) == 0 ? about(60) : less(4);
        is("ask(" + what + ", " + v + ")", x.ask(what, v), m.ask(what, v));
        int set = aSet();
        is("lawful(" + set + ")", x.lawful(set), m.lawful(set));
    }

    private String number(int n) {
        int digits = less(8) == 0 ? 3 : less(6) == 0 ? 2 : 1;
        StringBuilder t = new StringBuilder().append(n);
        while (t.length() < digits) {
            t.insert(0, '0');
        }
        return t.toString();
    }

    private String item(int singers) {
        int pick = less(singers < 4 ? 12 : 24);
        if (pick < 6) {
            return "singer " + number(less(40) == 0 ? less(12) : less(7)) + " " + number(less(4)) + " " + number(1 + less(9));
        }
        switch (pick % 8) {
            case 0:
                return "most " + number(less(30) == 0 ? less(6) : 1 + less(3));
            case 1:
                return "least " + number(less(12) == 0 ? less(10) : 1 + less(3));
            case 2:
                return "near " + number(less(12) == 0 ? less(4) : less(2));
            case 3:
                return "ear " + number(less(55));
            case 4:
            case 5:
            case 6:
                return "heard " + number(1 + less(Math.max(1, (1 << singers) - 1))) + " " + number(less(20) == 0 ? less(4) : less(2));
            default:
                return "swap " + number(less(singers + 1)) + " " + number(less(singers + 1));
        }
    }

    private void text() {
        StringBuilder t = new StringBuilder();
        int items = 1 + less(6);
        for (int i = 0; i < items; i++) {
            t.append(i == 0 ? "" : ";").append(item(m.status(0)));
        }
        if (less(40) == 0) {
            for (int i = 0; i < 18; i++) {
                t.append(";heard ").append((1 << m.status(0)) - 1 - i % 4).append(" 1");
            }
        }
        if (less(3) == 0) {
            int at = less(t.length());
            switch (less(4)) {
                case 0:
                    t.deleteCharAt(at);
                    break;
                case 1:
                    t.insert(at, " ;0159singermostheardwpl".charAt(less(24)));
                    break;
                case 2:
                    t.setCharAt(at, (char) less(128));
                    break;
                default:
                    t.setLength(at);
                    break;
            }
        }
        if (t.length() > 160) {
            t.setLength(160);
        }
        // the letters are no calls that are counted: a run may go far beyond 512 by them only here
        int s = less(8);
        int sort = less(4);
        x.row(s, sort, t.length());
        m.row(s, sort, t.length());
        for (int i = 0; i < t.length(); i++) {
            x.set(s, i, t.charAt(i));
            m.set(s, i, t.charAt(i));
        }
        is("loft(" + s + ") of " + t, x.loft(s), m.loft(s));
        is("fault()", x.fault(), m.fault());
        int other = about(8);
        if (less(4) == 0) {
            is("loft(" + other + ")", x.loft(other), m.loft(other));
            is("fault()", x.fault(), m.fault());
        }
    }

    private void hearings() {
        int set = aSet();
        switch (less(8)) {
            case 0:
                is("forget()", x.forget(), m.forget());
                break;
            case 1:
                int world = aWorld();
                is("sounds(" + set + ", " + world + ")", x.sounds(set, world), m.sounds(set, world));
                break;
            case 2:
            case 3:
                is("hear(" + set + ")", x.hear(set), m.hear(set));
                break;
            case 4:
                fill();
                break;
            default:
                int sound = about(2);
                is("heard(" + set + ", " + sound + ")", x.heard(set, sound), m.heard(set, sound));
                break;
        }
    }

    private void fill() {
        for (int n = less(20); n > 0; n--) {
            int set = aSet();
            is("hear(" + set + ")", x.hear(set), m.hear(set));
        }
    }

    private void said() {
        int set = aSet();
        int what = about(3);
        switch (less(6)) {
            case 0:
                is("may(" + what + ")", x.may(what), m.may(what));
                break;
            case 1:
                is("likeliest()", x.likeliest(), m.likeliest());
                break;
            case 2:
                is("lawful(" + set + ")", x.lawful(set), m.lawful(set));
                break;
            case 3:
                is("parts(" + set + ", " + what + ")", x.parts(set, what), m.parts(set, what));
                break;
            case 4:
                is("next()", x.next(), m.next());
                break;
            default:
                if (less(4) == 0) {
                    is("by(" + what + ")", x.by(what), m.by(what));
                } else {
                    int singer = less(8);
                    is("singerOf(" + singer + ", 4)", x.singerOf(singer, 4), m.singerOf(singer, 4));
                }
                break;
        }
    }

    private void told() {
        int s = less(10) == 0 ? about(8) : less(8);
        int n = less(4) == 0 ? about(35) : about(8);
        if (less(4) != 0) {
            begin(s, less(4), Math.max(0, Math.min(160, n)));
            boolean sets = less(3) == 0;
            for (int i = 0; i < Math.max(0, Math.min(40, n)) && calls < CALLS; i++) {
                long high = less(9) == 0 ? (long) less(9) << 32 : 0;
                put(s, i, high | (sets || i % 2 == 0 ? aSet() : less(15) == 0 ? about(3) : less(2)));
            }
        }
        int what = about(2);
        is("ahead(" + s + ", " + n + ", " + what + ")", x.ahead(s, n, what), m.ahead(s, n, what));
        is("judge(" + s + ", " + n + ")", x.judge(s, n), m.judge(s, n));
        is("behind(" + s + ", " + n + ")", x.behind(s, n), m.behind(s, n));
        is("byEar(" + s + ", " + n + ")", x.byEar(s, n), m.byEar(s, n));
    }

    private void places() {
        switch (less(3)) {
            case 0:
                is("beside()", x.beside(), m.beside());
                break;
            case 1:
                is("quiet()", x.quiet(), m.quiet());
                break;
            default:
                int p = about(8);
                int q = about(8);
                is("swap(" + p + ", " + q + ")", x.swap(p, q), m.swap(p, q));
                break;
        }
    }

    private void truth() {
        switch (less(4)) {
            case 0:
                int world = aWorld();
                is("isTrue(" + world + ")", x.isTrue(world), m.isTrue(world));
                break;
            case 1:
                int v = less(2) == 0 ? draw.nextInt() : less(5);
                is("seed(" + v + ")", x.seed(v), m.seed(v));
                break;
            case 2:
                int n = less(4) == 0 ? about(21) : 1 + less(2);
                is("evenings(" + n + ")", x.evenings(n), m.evenings(n));
                break;
            default:
                is("beside()", x.beside(), m.beside());
                break;
        }
    }

    private void acts() {
        int singer = about(8);
        int act = about(3);
        int v = less(2) == 0 ? draw.nextInt() : less(40) - 20;
        is("act(" + singer + ", " + act + ", " + v + ")", x.act(singer, act, v), m.act(singer, act, v));
        is("status(8)", x.status(8), m.status(8));
        for (int i = 0; i < 11; i += 1 + less(3)) {
            is("trace(" + i + ")", x.trace(i), m.trace(i));
        }
    }

    private void whole() {
        if (less(2) == 0) {
            is("image()", x.image(), m.image());
        } else if (less(2) == 0) {
            is("restore()", x.restore(), m.restore());
        }
        for (int what = 11; what <= 17; what++) {
            is("status(" + what + ")", x.status(what), m.status(what));
        }
    }
}
