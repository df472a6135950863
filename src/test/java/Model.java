import java.util.ArrayList;
import java.util.Collections;
import java.util.HashMap;
import java.util.List;
import java.util.Map;

/** The document once more, as plainly and slowly as it can be said; the class is held against it by draws. */
final class Model {
    private static final int[] ABOVE = {-1, 0, 0, 1, 0, 2, 4};
    private static final String[] WORDS = {"singer", "most", "least", "near", "ear", "heard", "swap"};

    private static final class Singer {
        int kind;
        int a;
        int odds;
        int place;
    }

    private static final class State {
        List<Singer> singers = new ArrayList<>();
        int most = 1;
        int least = 1;
        int near = 0;
        int ear = 0;
        List<int[]> known = new ArrayList<>();
        int truth = 0;
        int seed = 1;

        State copy() {
            State c = new State();
            for (Singer s : singers) {
                Singer t = new Singer();
                t.kind = s.kind;
                t.a = s.a;
                t.odds = s.odds;
                t.place = s.place;
                c.singers.add(t);
            }
            c.most = most;
            c.least = least;
            c.near = near;
            c.ear = ear;
            for (int[] k : known) {
                c.known.add(k.clone());
            }
            c.truth = truth;
            c.seed = seed;
            return c;
        }

        int all() {
            return (1 << singers.size()) - 1;
        }

        boolean isSet(int set) {
            return set > 0 && (set & ~all()) == 0;
        }

        List<Integer> worlds() {
            List<Integer> found = new ArrayList<>();
            for (int bits = 1; bits <= all(); bits++) {
                if (Integer.bitCount(bits) <= most) {
                    found.add(bits);
                }
            }
            Collections.sort(found, (p, q) -> Integer.bitCount(p) != Integer.bitCount(q)
                ? Integer.bitCount(p) - Integer.bitCount(q) : p - q);
            return found;
        }

        int weight(int world) {
            int w = 1;
            for (int i = 0; i < singers.size(); i++) {
                if ((world >> i & 1) == 1) {
                    w *= singers.get(i).odds;
                }
            }
            return w;
        }

        int weights(List<Integer> some) {
            int sum = 0;
            for (int w : some) {
                sum += weight(w);
            }
            return sum;
        }

        int at(int place) {
            for (int i = 0; i < singers.size(); i++) {
                if (singers.get(i).place == place) {
                    return i;
                }
            }
            return -1;
        }

        boolean coversAt(int place, int set, int world) {
            int who = at(place);
            return who >= 0 && (set >> who & 1) == 1 && (world >> who & 1) == 0;
        }

        boolean isHeard(int i, int set, int world) {
            Singer s = singers.get(i);
            switch (s.kind) {
                case 0:
                    return true;
                case 1:
                    return !coversAt(s.place - 1, set, world);
                case 2:
                    return !(Integer.bitCount(set) <= s.a + 1);
                case 3:
                    return !(coversAt(s.place - 1, set, world) || coversAt(s.place + 1, set, world));
                case 4:
                    return false;
                case 5:
                    return !(Integer.bitCount(set) <= s.a + 1) && s.place != 0 && s.place != singers.size() - 1;
                default:
                    return set == all();
            }
        }

        int sound(int set, int world) {
            for (int i = 0; i < singers.size(); i++) {
                if ((set & world & 1 << i) != 0 && isHeard(i, set, world)) {
                    return 1;
                }
            }
            return 0;
        }

        List<Integer> possible() {
            List<Integer> left = worlds();
            for (int[] k : known) {
                left = by(left, k[0], k[1]);
            }
            return left;
        }

        List<Integer> by(List<Integer> some, int set, int sound) {
            List<Integer> left = new ArrayList<>();
            for (int w : some) {
                if (sound(set, w) == sound) {
                    left.add(w);
                }
            }
            return left;
        }

        boolean lawful(int set) {
            if (!isSet(set) || Integer.bitCount(set) < least) {
                return false;
            }
            if (near == 0) {
                return true;
            }
            int first = 99;
            int last = -1;
            for (int i = 0; i < singers.size(); i++) {
                if ((set >> i & 1) == 1) {
                    first = Math.min(first, singers.get(i).place);
                    last = Math.max(last, singers.get(i).place);
                }
            }
            return last - first + 1 == Integer.bitCount(set);
        }

        int worst(List<Integer> some, int set) {
            int wrong = by(some, set, 1).size();
            return Math.max(wrong, some.size() - wrong);
        }

        int next(List<Integer> some) {
            int found = -1;
            for (int set = 1; set <= all(); set++) {
                if (!lawful(set)) {
                    continue;
                }
                int worst = worst(some, set);
                if (worst < some.size() && (found == -1 || worst < worst(some, found))) {
                    found = set;
                }
            }
            return found;
        }

        boolean knows(int set, int sound) {
            for (int[] k : known) {
                if (k[0] == set && k[1] == sound) {
                    return true;
                }
            }
            return false;
        }

        void learn(int set, int sound) {
            if (!knows(set, sound)) {
                known.add(new int[] {set, sound});
            }
        }

        void anew() {
            known.clear();
            truth = singers.isEmpty() ? 0 : worlds().get(0);
        }

        void join(int kind, int a, int odds) {
            Singer s = new Singer();
            s.kind = kind;
            s.a = a;
            s.odds = odds;
            s.place = singers.size();
            singers.add(s);
            anew();
        }

        void change(int p, int q) {
            int place = singers.get(p).place;
            singers.get(p).place = singers.get(q).place;
            singers.get(q).place = place;
        }

        boolean suits(int what, int v) {
            switch (what) {
                case 0:
                    return 1 <= v && v <= 3;
                case 1:
                    return 1 <= v && v <= 8;
                case 2:
                    return v == 0 || v == 1;
                case 3:
                    return 0 <= v && v <= 50;
                default:
                    return false;
            }
        }

        int put(int what, int v) {
            int was = what == 0 ? most : what == 1 ? least : what == 2 ? near : ear;
            if (what == 0) {
                most = v;
                anew();
            } else if (what == 1) {
                least = v;
            } else if (what == 2) {
                near = v;
            } else {
                ear = v;
            }
            return was;
        }
    }

    private static final class Row {
        int sort;
        long[] e;
    }

    /** The ACTS, as classes of the document's KINDS. */
    private static class Sings {
        int m;
        int k;
        List<Integer> ran;

        int sings(int x) {
            ran.add(10);
            return x + m;
        }

        int hears(int x) {
            ran.add(11);
            return sings(x) * 2;
        }

        int leans(int x) {
            ran.add(12);
            int h = hears(x);
            return h ^ sings(x - k);
        }
    }

    private static class Leans extends Sings {
        @Override
        int sings(int x) {
            ran.add(20);
            return super.sings(x) + k;
        }
    }

    private static class Hides extends Sings {
        @Override
        int hears(int x) {
            ran.add(30);
            return super.hears(x) * 3;
        }
    }

    private static final class Proud extends Leans {
        @Override
        int hears(int x) {
            ran.add(40);
            return super.hears(x + 1);
        }
    }

    private static class Mute extends Sings {
        @Override
        int leans(int x) {
            ran.add(50);
            return -super.leans(x);
        }

        @Override
        int sings(int x) {
            ran.add(51);
            return super.sings(x) - m;
        }
    }

    private static final class Shadow extends Hides {
        @Override
        int leans(int x) {
            ran.add(60);
            return super.leans(x) ^ 5;
        }
    }

    private static final class Deaf extends Mute {
        @Override
        int sings(int x) {
            ran.add(70);
            return super.sings(x) * 2;
        }

        @Override
        int hears(int x) {
            ran.add(71);
            return super.hears(x - k);
        }
    }

    private State now = new State();
    private State image = null;
    private final Object[] shelves = new Object[8];
    private int fault = -1;
    private final int[] refusals = new int[8];
    private List<Integer> ran = new ArrayList<>();

    private int no(int number) {
        refusals[-number]++;
        return number;
    }

    private boolean shelf(int s) {
        return s >= 0 && s <= 7;
    }

    private boolean has(int singer) {
        return singer >= 0 && singer < now.singers.size();
    }

    private int rowLack(int s) {
        if (!shelf(s)) {
            return -1;
        }
        if (shelves[s] == null) {
            return -3;
        }
        return shelves[s] instanceof Row ? 0 : -2;
    }

    private Row rowIn(int s) {
        return (Row) shelves[s];
    }

    int row(int s, int sort, int n) {
        if (!shelf(s)) {
            return no(-1);
        }
        if (n < 0) {
            return no(-4);
        }
        if (sort < 0 || sort > 3) {
            return no(-6);
        }
        if (n > 160) {
            return no(-7);
        }
        Row r = new Row();
        r.sort = sort;
        r.e = new long[n];
        shelves[s] = r;
        return 1;
    }

    int set(int s, int i, long v) {
        if (rowLack(s) != 0) {
            return no(rowLack(s));
        }
        Row r = rowIn(s);
        if (i < 0 || i >= r.e.length) {
            return no(-5);
        }
        int drop = 64 - (8 << r.sort);
        r.e[i] = v << drop >> drop;
        return 1;
    }

    int copy(int p, int q, int i, int j, int n) {
        if (!shelf(p) || !shelf(q)) {
            return no(-1);
        }
        if (shelves[p] instanceof Integer || shelves[q] instanceof Integer) {
            return no(-2);
        }
        if (shelves[p] != null && shelves[q] != null && rowIn(p).sort != rowIn(q).sort) {
            return no(-2);
        }
        if (shelves[p] == null || shelves[q] == null) {
            return no(-3);
        }
        if (n < 0) {
            return no(-4);
        }
        if (i < 0 || j < 0 || (long) i + n > rowIn(p).e.length || (long) j + n > rowIn(q).e.length) {
            return no(-5);
        }
        long[] from = rowIn(p).e.clone();
        for (int k = 0; k < n; k++) {
            rowIn(q).e[j + k] = from[i + k];
        }
        return 1;
    }

    long element(int s, int i) {
        return rowLack(s) == 0 && i >= 0 && i < rowIn(s).e.length ? rowIn(s).e[i] : 0;
    }

    int show(int s, int singer) {
        if (!shelf(s) || (singer != -1 && !has(singer))) {
            return no(-1);
        }
        shelves[s] = singer == -1 ? null : Integer.valueOf(singer);
        return singer == -1 ? 0 : 1;
    }

    int holds(int s) {
        if (!shelf(s) || shelves[s] == null) {
            return -1;
        }
        return shelves[s] instanceof Row ? 100 + rowIn(s).sort : (Integer) shelves[s];
    }

    int says(int s, int kind) {
        if (!shelf(s) || kind < 0 || kind > 6) {
            return no(-1);
        }
        if (shelves[s] instanceof Row) {
            return no(-2);
        }
        if (shelves[s] == null) {
            return no(-3);
        }
        Singer singer = now.singers.get((Integer) shelves[s]);
        int k = singer.kind;
        while (k != kind && k != -1) {
            k = ABOVE[k];
        }
        if (k == -1) {
            return no(-2);
        }
        switch (kind) {
            case 0:
                return singer.place;
            case 1:
            case 3:
                return now.at(singer.place - 1);
            case 2:
            case 5:
                return singer.a + 2;
            default:
                return singer.a;
        }
    }

    int singer(int kind, int a, int odds) {
        if (kind < 0 || kind > 6) {
            return no(-1);
        }
        if (a < 0 || a > 9 || odds < 1 || odds > 9) {
            return no(-6);
        }
        if (now.singers.size() == 8) {
            return no(-7);
        }
        now.join(kind, a, odds);
        return now.singers.size() - 1;
    }

    int singerOf(int singer, int what) {
        if (!has(singer) || what < 0 || what > 4) {
            return no(-5);
        }
        Singer s = now.singers.get(singer);
        if (what < 4) {
            return new int[] {s.kind, s.a, s.odds, s.place}[what];
        }
        List<Integer> possible = now.possible();
        List<Integer> his = new ArrayList<>();
        for (int w : possible) {
            if ((w >> singer & 1) == 1) {
                his.add(w);
            }
        }
        return possible.isEmpty() ? 0 : 1000 * now.weights(his) / now.weights(possible);
    }

    int ask(int what, int v) {
        return now.suits(what, v) ? now.put(what, v) : no(-6);
    }

    int loft(int s) {
        if (rowLack(s) != 0) {
            return no(rowLack(s));
        }
        StringBuilder text = new StringBuilder();
        for (long e : rowIn(s).e) {
            int sign = (int) e;
            text.append(sign > 0 && sign < 127 ? (char) sign : '?');
        }
        State trial = now.copy();
        int[] result = read(text.toString(), trial);
        fault = result[1];
        if (fault != -1) {
            return no(-6);
        }
        now = trial;
        return result[0];
    }

    /** How many items, and the FAULT. */
    private static int[] read(String text, State trial) {
        int at = 0;
        int items = 0;
        while (true) {
            String rest = text.substring(at);
            int word = -1;
            int furthest = 0;
            for (int w = 0; w < WORDS.length; w++) {
                if (rest.startsWith(WORDS[w])) {
                    word = w;
                }
                for (int n = 1; n <= WORDS[w].length(); n++) {
                    if (rest.startsWith(WORDS[w].substring(0, n))) {
                        furthest = Math.max(furthest, n);
                    }
                }
            }
            if (word == -1) {
                return new int[] {items, at + furthest};
            }
            if (word == 0 && trial.singers.size() == 8 || word == 5 && trial.known.size() == 16) {
                return new int[] {items, at};
            }
            at += WORDS[word].length();
            int wanted = word == 0 ? 3 : word <= 4 ? 1 : 2;
            List<Integer> numbers = new ArrayList<>();
            for (int k = 0; k < wanted; k++) {
                if (!text.startsWith(" ", at)) {
                    return new int[] {items, at};
                }
                at++;
                int end = at;
                while (end < text.length() && end < at + 3 && "0123456789".indexOf(text.charAt(end)) >= 0) {
                    end++;
                }
                if (end == at) {
                    return new int[] {items, at};
                }
                numbers.add(Integer.parseInt(text.substring(at, end)));
                if (!mayBe(word, numbers, trial)) {
                    return new int[] {items, at};
                }
                at = end;
            }
            carryOut(word, numbers, trial);
            items++;
            if (at == text.length()) {
                return new int[] {items, -1};
            }
            if (text.charAt(at) != ';') {
                return new int[] {items, at};
            }
            at++;
        }
    }

    private static boolean mayBe(int word, List<Integer> numbers, State trial) {
        int k = numbers.size() - 1;
        int v = numbers.get(k);
        switch (word) {
            case 0:
                return k == 0 ? v <= 6 : k == 1 ? v <= 9 : v >= 1 && v <= 9;
            case 5:
                if (k == 0) {
                    return trial.isSet(v);
                }
                return v <= 1 && !trial.by(trial.possible(), numbers.get(0), v).isEmpty();
            case 6:
                return v < trial.singers.size() && (k == 0 || numbers.get(0) != v);
            default:
                return trial.suits(word - 1, v);
        }
    }

    private static void carryOut(int word, List<Integer> numbers, State trial) {
        if (word == 0) {
            trial.join(numbers.get(0), numbers.get(1), numbers.get(2));
        } else if (word == 5) {
            trial.learn(numbers.get(0), numbers.get(1));
        } else if (word == 6) {
            trial.change(numbers.get(0), numbers.get(1));
            trial.anew();
        } else {
            trial.put(word - 1, numbers.get(0));
        }
    }

    int fault() {
        return fault;
    }

    int worlds(int what) {
        return what == 0 ? now.worlds().size() : what == 1 ? now.possible().size() : no(-5);
    }

    int world(int i) {
        List<Integer> possible = now.possible();
        return i >= 0 && i < possible.size() ? possible.get(i) : no(-5);
    }

    int sounds(int set, int world) {
        return now.isSet(set) && now.worlds().contains(world) ? now.sound(set, world) : no(-6);
    }

    int heard(int set, int sound) {
        if (!now.isSet(set) || sound < 0 || sound > 1 || now.by(now.possible(), set, sound).isEmpty()) {
            return no(-6);
        }
        if (!now.knows(set, sound) && now.known.size() == 16) {
            return no(-7);
        }
        now.learn(set, sound);
        return now.possible().size();
    }

    int known(int i) {
        if (i == -1) {
            return now.known.size();
        }
        return i >= 0 && i < now.known.size() ? 2 * now.known.get(i)[0] + now.known.get(i)[1] : no(-5);
    }

    int forget() {
        int was = now.known.size();
        now.known.clear();
        return was;
    }

    int may(int what) {
        if (what < 0 || what > 1) {
            return no(-5);
        }
        int some = 0;
        int every = -1;
        for (int w : now.possible()) {
            some |= w;
            every &= w;
        }
        return what == 0 ? some : every == -1 ? 0 : every;
    }

    int likeliest() {
        int found = -1;
        for (int w : now.possible()) {
            if (found == -1 || now.weight(w) > now.weight(found)) {
                found = w;
            }
        }
        return found == -1 ? no(-5) : found;
    }

    int lawful(int set) {
        return now.lawful(set) ? 1 : 0;
    }

    int parts(int set, int what) {
        if (what < 0 || what > 1) {
            return no(-5);
        }
        if (!now.isSet(set)) {
            return no(-6);
        }
        return what == 0 ? now.by(now.possible(), set, 1).size() : now.worst(now.possible(), set);
    }

    int next() {
        return now.next(now.possible());
    }

    int by(int what) {
        List<Integer> possible = now.possible();
        if (what < 0 || what > 2 || possible.isEmpty()) {
            return no(-5);
        }
        long[] found = new long[3];
        follow(possible, 0, found);
        return (int) (what == 1 ? 1000 * found[1] / now.weights(possible) : found[what]);
    }

    private void follow(List<Integer> some, int depth, long[] found) {
        int set = some.size() == 1 ? -1 : now.next(some);
        if (set == -1) {
            found[0] = Math.max(found[0], depth);
            found[1] += (long) depth * now.weights(some);
            found[2] = Math.max(found[2], some.size());
            return;
        }
        follow(now.by(some, set, 0), depth + 1, found);
        follow(now.by(some, set, 1), depth + 1, found);
    }

    private int toldLack(int s, int n) {
        int lack = rowLack(s);
        return lack != 0 ? lack : n < 0 ? -4 : n > rowIn(s).e.length ? -5 : 0;
    }

    private int asInt(int s, int i) {
        return (int) rowIn(s).e[i];
    }

    int ahead(int s, int n, int what) {
        int lack = toldLack(s, n);
        if (lack == 0 && what != 0 && what != 1) {
            lack = -5;
        }
        if (lack == 0 && n > 16) {
            lack = -6;
        }
        for (int k = 0; lack == 0 && k < n; k++) {
            if (!now.isSet(asInt(s, k))) {
                lack = -6;
            }
        }
        if (lack != 0) {
            return no(lack);
        }
        Map<String, Integer> rows = new HashMap<>();
        for (int w : now.possible()) {
            StringBuilder sounds = new StringBuilder();
            for (int k = 0; k < n; k++) {
                sounds.append(now.sound(asInt(s, k), w));
            }
            rows.merge(sounds.toString(), 1, Integer::sum);
        }
        int most = 0;
        for (int many : rows.values()) {
            most = Math.max(most, many);
        }
        return what == 0 ? rows.size() : most;
    }

    /** WRONG, and how many are POSSIBLE behind it. */
    private int[] told(int s, int n) {
        List<Integer> left = now.possible();
        for (int k = 0; k < n; k++) {
            int e = asInt(s, k);
            if (k % 2 == 0) {
                if (!now.lawful(e)) {
                    return new int[] {k, 0};
                }
            } else {
                left = now.by(left, asInt(s, k - 1), e);
                if (left.isEmpty()) {
                    return new int[] {k, 0};
                }
            }
        }
        return new int[] {-1, left.size()};
    }

    int judge(int s, int n) {
        int lack = toldLack(s, n);
        if (lack == 0 && n > 32) {
            lack = -6;
        }
        return lack != 0 ? no(lack) - 10 : told(s, n)[0];
    }

    int behind(int s, int n) {
        int lack = toldLack(s, n);
        if (lack == 0 && (n > 32 || n % 2 == 1 || told(s, n)[0] != -1)) {
            lack = -6;
        }
        return lack != 0 ? no(lack) : told(s, n)[1];
    }

    int byEar(int s, int n) {
        int lack = toldLack(s, n);
        if (lack == 0 && now.singers.isEmpty()) {
            lack = -5;
        }
        if (lack == 0 && (n > 32 || n % 2 == 1)) {
            lack = -6;
        }
        for (int k = 0; lack == 0 && k < n; k++) {
            int e = asInt(s, k);
            if (k % 2 == 0 ? !now.isSet(e) : e != 0 && e != 1) {
                lack = -6;
            }
        }
        if (lack != 0) {
            return no(lack);
        }
        int found = -1;
        long most = -1;
        for (int w : now.worlds()) {
            long has = 10000L * now.weight(w);
            for (int k = 0; k < n; k += 2) {
                has = now.sound(asInt(s, k), w) == asInt(s, k + 1) ? has * (100 - now.ear) / 100 : has * now.ear / 100;
            }
            if (has > most) {
                most = has;
                found = w;
            }
        }
        return found;
    }

    int beside() {
        if (now.singers.isEmpty() || now.sound(now.all(), now.truth) == 0) {
            return -1;
        }
        for (int i = 0; i < now.singers.size(); i++) {
            for (int j = i + 1; j < now.singers.size(); j++) {
                State trial = now.copy();
                trial.change(i, j);
                if (trial.sound(trial.all(), trial.truth) == 0) {
                    return 100 * i + j;
                }
            }
        }
        return -1;
    }

    int quiet() {
        if (now.singers.isEmpty()) {
            return no(-5);
        }
        int most = now.by(now.worlds(), now.all(), 0).size();
        for (int i = 0; i < now.singers.size(); i++) {
            for (int j = i + 1; j < now.singers.size(); j++) {
                State trial = now.copy();
                trial.change(i, j);
                most = Math.max(most, trial.by(trial.worlds(), trial.all(), 0).size());
            }
        }
        return most;
    }

    int swap(int singer, int other) {
        if (!has(singer) || !has(other)) {
            return no(-1);
        }
        if (singer == other) {
            return no(-6);
        }
        now.change(singer, other);
        now.anew();
        return 1;
    }

    int isTrue(int world) {
        if (!now.worlds().contains(world)) {
            return no(-6);
        }
        int was = now.truth;
        now.truth = world;
        now.known.clear();
        return was;
    }

    int hear(int set) {
        if (!now.lawful(set)) {
            return no(-6);
        }
        int sound = now.sound(set, now.truth);
        if (!now.knows(set, sound) && now.known.size() == 16) {
            return no(-7);
        }
        now.learn(set, sound);
        return sound;
    }

    int evenings(int n) {
        if (now.singers.isEmpty()) {
            return no(-5);
        }
        if (n < 1 || n > 20) {
            return no(-6);
        }
        int heard = 0;
        for (int i = 0; i < n; i++) {
            List<Integer> worlds = now.worlds();
            now.seed = (int) (now.seed * 1103515245L + 12345L);
            now.truth = worlds.get((int) ((now.seed & 0xFFFFFFFFL) / 65536 % worlds.size()));
            now.known.clear();
            while (now.known.size() < 16 && now.possible().size() > 1 && now.next(now.possible()) != -1) {
                int set = now.next(now.possible());
                now.learn(set, now.sound(set, now.truth));
                heard++;
            }
        }
        return heard;
    }

    int seed(int v) {
        int was = now.seed;
        now.seed = v;
        return was;
    }

    int act(int singer, int act, int x) {
        ran = new ArrayList<>();
        if (!has(singer) || act < 0 || act > 2) {
            return 0;
        }
        Sings[] kinds = {new Sings(), new Leans(), new Hides(), new Proud(), new Mute(), new Shadow(), new Deaf()};
        Sings who = kinds[now.singers.get(singer).kind];
        who.m = singer;
        who.k = now.singers.get(singer).a;
        who.ran = ran;
        return act == 0 ? who.sings(x) : act == 1 ? who.hears(x) : who.leans(x);
    }

    int trace(int i) {
        return i >= 0 && i < 20 && i < ran.size() ? ran.get(i) : -1;
    }

    int image() {
        image = now.copy();
        return now.singers.size();
    }

    int restore() {
        if (image == null) {
            return no(-6);
        }
        now = image.copy();
        for (int s = 0; s < 8; s++) {
            if (shelves[s] instanceof Integer && !has((Integer) shelves[s])) {
                shelves[s] = null;
            }
        }
        return now.singers.size();
    }

    int status(int what) {
        switch (what) {
            case 0:
                return now.singers.size();
            case 1:
                return now.most;
            case 2:
                return now.least;
            case 3:
                return now.near;
            case 4:
                return now.ear;
            case 5:
                return now.known.size();
            case 6:
                return now.truth;
            case 7:
                return now.seed;
            case 8:
                return ran.size();
            default:
                return what >= 11 && what <= 17 ? refusals[what - 10] : -1;
        }
    }
}
