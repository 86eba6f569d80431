import java.util.ArrayDeque;
import java.util.ArrayList;
import java.util.Arrays;
import java.util.Deque;
import java.util.List;
import java.util.NoSuchElementException;
import java.util.function.IntPredicate;

/**
 * The document once more, by plain trying of everything and with the Java library at hand,
 * so that runs of calls can be held against it. It shares no code with the program.
 */
final class Model {
    static final int NONE = -1;

    static final class Person {
        int hunger, party = 2, skin, had, run;
        boolean stands, benched;
        int[] likes = {5, 5, 5, 5, 5, 5};

        Person copy() {
            Person p = new Person();
            p.hunger = hunger; p.party = party; p.skin = skin; p.had = had; p.run = run;
            p.stands = stands; p.benched = benched; p.likes = likes.clone();
            return p;
        }

        boolean runs() { return stands && !benched; }
    }

    static final class World {
        List<Person> people = new ArrayList<>();
        int flour, week, way, speech, seed = 1, texts;
        int[] grist = {5, 5, 5, 5};
        List<int[]> log = new ArrayList<>();
        List<Line> law; // null without a text

        World copy() {
            World w = new World();
            for (Person p : people) w.people.add(p.copy());
            w.flour = flour; w.week = week; w.way = way; w.speech = speech; w.seed = seed; w.texts = texts;
            w.grist = grist.clone();
            w.log = new ArrayList<>(log);
            w.law = law;
            return w;
        }

        int n() { return people.size(); }
        Person p(int i) { return people.get(i); }
        int likes(int a, int b) { return a == b ? 9 : p(a).likes[b]; }
        int draw() { seed = (int) (1103515245L * seed + 12345L); return (seed >> 16) & 0x7fff; }
    }

    interface Cond { boolean holds(World w, int voter, int other); }
    interface Sum { int of(World w, int voter, int other); }
    record Line(String kind, int n, Cond c) { }

    static final class Wrong extends RuntimeException {
        private static final long serialVersionUID = 1;
        final int at;
        Wrong(int at) { super("wrong at " + at); this.at = at; }
    }

    record Token(String text, int at) { }

    /** Splits a text by words, numbers and signs; the last token is empty and stands at the text's length. */
    static Deque<Token> tokens(String s) {
        Deque<Token> all = new ArrayDeque<>();
        java.util.regex.Matcher m = java.util.regex.Pattern.compile("[a-z]+|[0-9]+|[^ ]", java.util.regex.Pattern.DOTALL).matcher(s);
        while (m.find()) all.add(new Token(m.group(), m.start()));
        all.add(new Token("", s.length()));
        return all;
    }

    static String word(Deque<Token> t, String... allowed) {
        Token k = t.peek();
        if (!Arrays.asList(allowed).contains(k.text)) throw new Wrong(k.at);
        return t.poll().text;
    }

    static boolean at(Deque<Token> t, String word) { return t.peek().text.equals(word); }

    static int number(Deque<Token> t, int most) {
        Token k = t.peek();
        if (!k.text.matches("[0-9]{1,3}") || Integer.parseInt(k.text) > most) throw new Wrong(k.at);
        return Integer.parseInt(t.poll().text);
    }

    static void lines(Deque<Token> t, int most, Runnable line) {
        if (at(t, "")) return;
        for (int i = 0; ; i++) {
            if (i == most) throw new Wrong(t.peek().at);
            line.run();
            if (at(t, "")) return;
            word(t, ";");
        }
    }

    static void villageText(World w, String text) {
        Deque<Token> t = tokens(text);
        lines(t, 14, () -> {
            Token first = t.peek();
            switch (word(t, "person", "likes", "flour", "grist", "way", "speech", "week")) {
                case "person": {
                    if (w.n() == 6) throw new Wrong(first.at);
                    Person p = new Person();
                    word(t, "hunger");
                    p.hunger = number(t, 9);
                    if (at(t, "party")) { t.poll(); p.party = word(t, "crust", "crumb").equals("crust") ? 0 : 1; }
                    if (at(t, "skin")) { t.poll(); p.skin = number(t, 9); }
                    if (at(t, "stands")) { t.poll(); p.stands = true; }
                    w.people.add(p);
                    break;
                }
                case "likes": {
                    int a = number(t, w.n() - 1);
                    int at = t.peek().at;
                    int b = number(t, w.n() - 1);
                    if (a == b) throw new Wrong(at);
                    w.p(a).likes[b] = number(t, 9);
                    break;
                }
                case "flour": w.flour = number(t, 999); break;
                case "grist": {
                    String q = word(t, "spring", "summer", "autumn", "winter");
                    w.grist[Arrays.asList("spring", "summer", "autumn", "winter").indexOf(q)] = number(t, 99);
                    break;
                }
                case "way": w.way = number(t, 5); break;
                case "speech": w.speech = number(t, 100); break;
                default: w.week = number(t, 999); break;
            }
        });
    }

    static List<Line> lawText(String text) {
        Deque<Token> t = tokens(text);
        List<Line> all = new ArrayList<>();
        lines(t, 12, () -> {
            String kind = word(t, "sway", "spite", "abstain");
            int n = kind.equals("abstain") ? 0 : number(t, 20);
            Cond c = (w, v, o) -> true;
            if (at(t, "if")) { t.poll(); c = either(t, 0); }
            all.add(new Line(kind, n, c));
        });
        return all;
    }

    static Cond either(Deque<Token> t, int deep) {
        List<Cond> any = new ArrayList<>();
        any.add(all(t, deep));
        while (at(t, "or")) { t.poll(); any.add(all(t, deep)); }
        return (w, v, o) -> any.stream().anyMatch(c -> c.holds(w, v, o));
    }

    static Cond all(Deque<Token> t, int deep) {
        List<Cond> every = new ArrayList<>();
        every.add(atom(t, deep));
        while (at(t, "and")) { t.poll(); every.add(atom(t, deep)); }
        return (w, v, o) -> every.stream().allMatch(c -> c.holds(w, v, o));
    }

    static Cond atom(Deque<Token> t, int deep) {
        if (at(t, "not") || at(t, "(")) {
            if (deep == 6) throw new Wrong(t.peek().at);
            if (t.poll().text.equals("not")) {
                Cond c = atom(t, deep + 1);
                return (w, v, o) -> !c.holds(w, v, o);
            }
            Cond c = either(t, deep + 1);
            word(t, ")");
            return c;
        }
        if (at(t, "same")) {
            t.poll();
            return (w, v, o) -> w.p(v).party == w.p(o).party && w.p(v).party != 2;
        }
        if (at(t, "standing")) { t.poll(); return (w, v, o) -> w.p(v).stands; }
        Sum a = sum(t);
        boolean less = word(t, "<", ">").equals("<");
        Sum b = sum(t);
        return (w, v, o) -> less ? a.of(w, v, o) < b.of(w, v, o) : a.of(w, v, o) > b.of(w, v, o);
    }

    static Sum sum(Deque<Token> t) {
        Sum a = part(t);
        while (at(t, "+")) {
            t.poll();
            Sum left = a, right = part(t);
            a = (w, v, o) -> left.of(w, v, o) + right.of(w, v, o);
        }
        return a;
    }

    static Sum part(Deque<Token> t) {
        if (t.peek().text.matches("[0-9]+")) { int n = number(t, 999); return (w, v, o) -> n; }
        switch (word(t, "voter", "other", "likes", "hunger", "had", "run", "skin")) {
            case "voter": return (w, v, o) -> v;
            case "other": return (w, v, o) -> o;
            case "likes": return (w, v, o) -> w.likes(v, o);
            case "hunger": return (w, v, o) -> w.p(o).hunger;
            case "had": return (w, v, o) -> w.p(o).had;
            case "run": return (w, v, o) -> w.p(o).run;
            default: return (w, v, o) -> w.p(v).skin;
        }
    }

    static int favour(World w, int v, int o) {
        int f = w.likes(v, o);
        if (w.law == null) return f + (w.p(v).party == w.p(o).party && w.p(v).party != 2 ? 2 : 0);
        for (Line l : w.law) {
            if (l.kind.equals("sway") && l.c.holds(w, v, o)) f += l.n;
            if (l.kind.equals("spite") && l.c.holds(w, v, o)) f -= l.n;
        }
        return f;
    }

    static List<Integer> which(World w, IntPredicate is) {
        List<Integer> all = new ArrayList<>();
        for (int i = 0; i < w.n(); i++) if (is.test(i)) all.add(i);
        return all;
    }

    static int bits(List<Integer> all) { int b = 0; for (int i : all) b |= 1 << i; return b; }

    static boolean abstains(World w, int v) {
        return w.law != null && w.law.stream().anyMatch(l -> l.kind.equals("abstain") && l.c.holds(w, v, v));
    }

    static List<Integer> voters(World w) { return which(w, i -> !w.p(i).benched && !abstains(w, i)); }
    static List<Integer> runners(World w) { return which(w, i -> w.p(i).runs()); }
    static List<Integer> present(World w) { return which(w, i -> !w.p(i).benched); }

    static List<Integer> rank(World w, int v, List<Integer> among) {
        List<Integer> r = new ArrayList<>(among);
        r.sort((a, b) -> favour(w, v, a) != favour(w, v, b) ? favour(w, v, b) - favour(w, v, a) : a - b);
        return r;
    }

    static int firsts(World w, int r, List<Integer> among) {
        int n = 0;
        for (int v : voters(w)) if (!among.isEmpty() && rank(w, v, among).get(0) == r) n++;
        return n;
    }

    static boolean beats(World w, int a, int b) {
        if (!w.p(a).runs() || !w.p(b).runs()) return false;
        int x = 0, y = 0;
        for (int v : voters(w)) if (rank(w, v, List.of(a, b)).get(0) == a) x++; else y++;
        return x > y;
    }

    static int points(World w, int r) {
        if (!w.p(r).runs()) return 0;
        int n = 0;
        for (int v : voters(w)) {
            List<Integer> k = rank(w, v, runners(w));
            n += k.size() - 1 - k.indexOf(r);
        }
        return n;
    }

    static int duels(World w, int a) { int n = 0; for (int b : runners(w)) if (b != a && beats(w, a, b)) n++; return n; }

    interface Score { int of(int r); }

    static int best(List<Integer> among, Score s) {
        int best = NONE;
        for (int r : among) if (best == NONE || s.of(r) > s.of(best)) best = r;
        return best;
    }

    static int winner(World w, int way) {
        List<Integer> rs = runners(w);
        if (rs.isEmpty()) return NONE;
        switch (way) {
            case 0: return best(rs, r -> firsts(w, r, rs));
            case 1: return best(rs, r -> {
                int n = 0;
                for (int v : voters(w)) if (rank(w, v, rs).get(rs.size() - 1) == r) n--;
                return n;
            });
            case 2: return best(rs, r -> points(w, r));
            case 3: return best(rs, r -> duels(w, r));
            case 4: {
                List<Integer> left = new ArrayList<>(rs);
                while (left.size() > 1) {
                    List<Integer> now = new ArrayList<>(left), back = new ArrayList<>(left);
                    java.util.Collections.reverse(back);
                    left.remove((Integer) best(back, r -> -firsts(w, r, now)));
                }
                return left.get(0);
            }
            default: {
                if (rs.size() == 1) return rs.get(0);
                int a = best(rs, r -> firsts(w, r, rs));
                List<Integer> rest = new ArrayList<>(rs);
                rest.remove((Integer) a);
                int b = best(rest, r -> firsts(w, r, rest));
                return beats(w, a, b) ? a : beats(w, b, a) ? b : Math.min(a, b);
            }
        }
    }

    /** who: NONE by votes, else whom the loaf is given to in their place; 6 for nobody. */
    static void week(World w, boolean speeches, int who) {
        w.flour = Math.min(9999, w.flour + w.grist[w.week % 4]);
        for (Person p : w.people) {
            if (p.stands || p.benched) continue;
            if (w.flour > 0) { w.flour--; p.hunger = 0; } else p.hunger = Math.min(9, p.hunger + 1);
        }
        int eater = w.flour == 0 || who == 6 ? NONE : who == NONE ? winner(w, w.way) : who;
        int votes = eater == NONE ? 0 : firsts(w, eater, runners(w));
        for (int i = 0; i < w.n(); i++) {
            Person p = w.p(i);
            if (i == eater) {
                w.flour--;
                p.hunger = 0;
                p.had = Math.min(999, p.had + 1);
                p.run = Math.min(99, p.run + 1);
                w.log.add(new int[] {w.week, 0, i, votes});
            } else {
                p.run = 0;
                if (p.runs()) p.hunger = Math.min(9, p.hunger + 1);
            }
        }
        for (int i = 0; i < w.n(); i++) {
            Person p = w.p(i);
            if (!p.benched && p.hunger == 9) { p.benched = true; w.log.add(new int[] {w.week, 1, i, 0}); }
        }
        while (w.log.size() > 60) w.log.remove(0);
        if (speeches && w.draw() % 100 < w.speech && !runners(w).isEmpty()) {
            int s = runners(w).get(w.draw() % runners(w).size());
            for (int i = 0; i < w.n(); i++) if (i != s) w.p(i).likes[s] = Math.min(9, w.p(i).likes[s] + 1);
        }
        w.week = Math.min(9999, w.week + 1);
    }

    static World ahead(World w, int n) {
        World c = w.copy();
        for (int i = 0; i < n; i++) week(c, false, NONE);
        return c;
    }

    static World tried(World w, int n, int seed) {
        World c = w.copy();
        c.seed = seed;
        for (int i = 0; i < n; i++) week(c, true, NONE);
        return c;
    }

    static int benched(World w) { return bits(which(w, i -> w.p(i).benched)); }

    static List<List<Integer>> orders(List<Integer> of) {
        List<List<Integer>> all = new ArrayList<>();
        if (of.isEmpty()) { all.add(List.of()); return all; }
        for (int x : of) {
            List<Integer> rest = new ArrayList<>(of);
            rest.remove((Integer) x);
            for (List<Integer> o : orders(rest)) {
                List<Integer> one = new ArrayList<>();
                one.add(x);
                one.addAll(o);
                all.add(one);
            }
        }
        return all;
    }

    World w = new World();
    World image;
    Deque<World> past = new ArrayDeque<>();
    StringBuilder tape = new StringBuilder();
    int fault = NONE;

    // ---- the face ----

    int feed(int a, int b, int c, int d, int e) {
        if (tape.length() + 20 > 400) return NONE;
        for (int x : new int[] {a, b, c, d, e}) for (int s = 24; s >= 0; s -= 8) tape.append((char) (x >> s & 255));
        return tape.length();
    }

    boolean end(int n) {
        if (n < 0 || n > tape.length()) return false;
        tape.setLength(n);
        return true;
    }

    String used() { String s = tape.toString(); tape.setLength(0); return s; }

    int village() {
        World draft = w.copy();
        try {
            villageText(draft, used());
            fault = NONE;
        } catch (Wrong e) {
            fault = e.at;
            throw new IllegalArgumentException();
        }
        if (w.texts == 12) throw new UnsupportedOperationException();
        w = draft;
        past.clear();
        return ++w.texts;
    }

    int law() {
        try {
            List<Line> l = lawText(used());
            fault = NONE;
            w.law = l;
            past.clear();
            return l.size();
        } catch (Wrong e) {
            fault = e.at;
            throw new IllegalArgumentException();
        }
    }

    int fault() { return fault; }

    void there(int p) { if (p < 0 || p >= w.n()) throw new IndexOutOfBoundsException(); }
    void two(int p, int q) { there(p); there(q); if (p == q) throw new IllegalArgumentException(); }
    static void in(int n, int a, int b) { if (n < a || n > b) throw new IllegalArgumentException(); }
    void act() { past.addLast(w.copy()); if (past.size() > 12) past.removeFirst(); }

    int person(int p, int what) {
        there(p);
        Person x = w.p(p);
        switch (what) {
            case 0: return x.hunger;
            case 1: return x.party;
            case 2: return x.skin;
            case 3: return x.stands ? 1 : 0;
            case 4: return x.benched ? 1 : 0;
            case 5: return x.had;
            case 6: return x.run;
            case 7: return rank(p, 0);
            case 8: return firsts(w, p, runners(w));
            case 9: return points(w, p);
            case 10: return duels(w, p);
            case 11: return woo(p) == NONE ? NONE : Integer.bitCount(woo(p));
            case 12: return count(10) == 0 ? 0 : 100 * x.had / count(10);
            case 13: return wouldPass(p);
            default: throw new NoSuchElementException();
        }
    }

    int wouldPass(int p) {
        return best(which(w, i -> i != p && !w.p(i).benched), i -> w.likes(p, i) + w.p(i).hunger);
    }

    int likes(int p, int q) { two(p, q); return w.likes(p, q); }
    int favour(int p, int q) { there(p); there(q); return favour(w, p, q); }
    int grist(int s) { if (s < 0 || s > 3) throw new IndexOutOfBoundsException(); return w.grist[s]; }

    int weeks(int n) {
        in(n, 1, 60);
        act();
        int was = Integer.bitCount(benched(w));
        for (int i = 0; i < n; i++) week(w, true, NONE);
        return Integer.bitCount(benched(w)) - was;
    }

    boolean stand(int p, boolean is) {
        there(p);
        if (w.p(p).benched) throw new IllegalStateException();
        act();
        boolean was = w.p(p).stands;
        w.p(p).stands = is;
        return was != is;
    }

    int like(int p, int q, int n) {
        two(p, q);
        in(n, 0, 9);
        act();
        int was = w.p(p).likes[q];
        w.p(p).likes[q] = n;
        return was;
    }

    int join(int p, int party) {
        there(p);
        if (party < 0 || party > 2) throw new IndexOutOfBoundsException();
        act();
        int was = w.p(p).party;
        w.p(p).party = party;
        return was;
    }

    int bring(int n) { in(n, 1, 999); act(); return w.flour = Math.min(9999, w.flour + n); }
    int way(int n) { in(n, 0, 5); act(); int was = w.way; w.way = n; return was; }

    int pass(int p, int q) {
        two(p, q);
        if (w.p(p).hunger > 0 || w.p(p).benched || w.p(q).benched) throw new IllegalStateException();
        act();
        w.p(p).hunger = 1;
        w.p(q).hunger = 0;
        return w.p(q).likes[p] = Math.min(9, w.p(q).likes[p] + 1);
    }

    int fetch(int p) {
        there(p);
        if (!w.p(p).benched) throw new IllegalStateException();
        act();
        w.p(p).benched = false;
        w.p(p).hunger = 5;
        return Integer.bitCount(benched(w));
    }

    int winner(int way) { in(way, 0, 5); return winner(w, way); }

    int rank(int p, int k) {
        there(p);
        List<Integer> rs = runners(w);
        return !voters(w).contains(p) || k < 0 || k >= rs.size() ? NONE : rank(w, p, rs).get(k);
    }

    boolean beats(int p, int q) { two(p, q); return beats(w, p, q); }

    int master() {
        for (int r : runners(w)) if (runners(w).stream().allMatch(q -> q == r || beats(w, r, q))) return r;
        return NONE;
    }

    int hungry(int way, int n) {
        in(way, 0, 5);
        in(n, 0, 60);
        World c = w.copy();
        c.way = way;
        return Integer.bitCount(benched(ahead(c, n)));
    }

    int kindest(int n) { in(n, 0, 60); return best(List.of(0, 1, 2, 3, 4, 5), y -> -hungry(y, n)); }
    int next(int n) { in(n, 0, 60); World c = ahead(w, n); return winner(c, c.way); }

    int woo(int p) {
        there(p);
        List<Integer> rs = runners(w), vs = voters(w);
        if (!rs.contains(p)) return NONE;
        for (int size = 0; size <= 6; size++) {
            for (int set = 0; set < 64; set++) {
                if (Integer.bitCount(set) != size || (set & ~bits(vs)) != 0) continue;
                int turned = set;
                if (best(rs, r -> {
                    int n = 0;
                    for (int v : vs) if (((turned >> v & 1) == 1 ? p : rank(w, v, rs).get(0)) == r) n++;
                    return n;
                }) == p) return set;
            }
        }
        return NONE;
    }

    int lastOf(List<Integer> order) {
        int holder = order.get(0);
        for (int x : order) if (x != holder && beats(w, x, holder)) holder = x;
        return holder;
    }

    int orders() {
        int b = 0;
        if (!runners(w).isEmpty()) for (List<Integer> o : orders(runners(w))) b |= 1 << lastOf(o);
        return b;
    }

    int order(int p, int k) {
        there(p);
        if (runners(w).isEmpty()) return NONE;
        for (List<Integer> o : orders(runners(w))) if (lastOf(o) == p) return k < 0 || k >= o.size() ? NONE : o.get(k);
        return NONE;
    }

    int fewest;
    int[] bestRow;

    void turns(World from, List<Integer> rs, int[] row, int k) {
        if (k == row.length) {
            int n = Integer.bitCount(benched(from));
            if (n < fewest) { fewest = n; bestRow = row.clone(); }
            return;
        }
        row[k] = NONE;
        World c = from.copy();
        week(c, false, 6);
        turns(c, rs, row, k + 1);
        for (int r : rs) {
            if (from.p(r).benched) continue;
            row[k] = r;
            c = from.copy();
            week(c, false, r);
            turns(c, rs, row, k + 1);
        }
    }

    int rota(int n, int k) {
        in(n, 0, 5);
        fewest = 99;
        World c = w.copy();
        c.law = null;
        turns(c, runners(w), new int[n], 0);
        return k == NONE ? fewest : k < 0 || k >= n ? NONE : bestRow[k];
    }

    int lasts() { for (int n = 0; n <= 60; n++) if (ahead(w, n).flour == 0) return n; return NONE; }

    int mill(int n) {
        in(n, 1, 60);
        for (int g = 0; g <= 99; g++) {
            World c = w.copy();
            Arrays.fill(c.grist, g);
            if (benched(ahead(c, n)) == benched(w)) return g;
        }
        return NONE;
    }

    int starves(boolean who) {
        World c = w;
        for (int n = 1; n <= 60; n++) {
            c = ahead(c, 1);
            int more = benched(c) & ~benched(w);
            if (more != 0) return who ? Integer.numberOfTrailingZeros(more) : n;
        }
        return NONE;
    }

    List<int[]> ways(String told) {
        List<Integer> rs = runners(w), vs = voters(w);
        if (told.length() > 40 || told.length() % 2 == 1) throw new IllegalArgumentException();
        for (int i = 0; i < told.length(); i += 2) {
            if (!rs.contains((int) told.charAt(i)) || told.charAt(i + 1) > 6) throw new IllegalArgumentException();
        }
        List<int[]> all = new ArrayList<>();
        all.add(new int[6]);
        for (int v : vs) {
            List<int[]> more = new ArrayList<>();
            for (int[] way : all) for (int r : rs) {
                if (w.likes(v, r) < 4) continue;
                int[] one = way.clone();
                one[v] = r;
                more.add(one);
            }
            all = more;
        }
        all.removeIf(way -> {
            for (int i = 0; i < told.length(); i += 2) {
                int n = 0;
                for (int v : vs) if (way[v] == told.charAt(i)) n++;
                if (n != told.charAt(i + 1)) return true;
            }
            return false;
        });
        return all;
    }

    int ballots() { return Math.min(9999, ways(used()).size()); }

    int sure(int p) {
        String s = used();
        there(p);
        List<int[]> all = ways(s);
        if (all.isEmpty() || !voters(w).contains(p)) return NONE;
        for (int[] way : all) if (way[p] != all.get(0)[p]) return NONE;
        return all.get(0)[p];
    }

    int ask() {
        List<int[]> all = ways(used());
        if (all.size() < 2) return NONE;
        return best(voters(w), v -> {
            int[] parts = new int[6];
            for (int[] way : all) parts[way[v]]++;
            return -Arrays.stream(parts).max().getAsInt();
        });
    }

    int weight(int p) { return w.p(p).had > 0 ? 2 : 1; }

    boolean carries(int house) {
        int in = 0, out = 0;
        for (int p : present(w)) if ((house >> p & 1) == 1) in += weight(p); else out += weight(p);
        return in > out;
    }

    int swings(int p) {
        there(p);
        int n = 0;
        int all = bits(present(w));
        if (!present(w).contains(p)) return 0;
        for (int h = 0; h < 64; h++) if ((h & ~all) == 0 && (h >> p & 1) == 1 && carries(h) && !carries(h - (1 << p))) n++;
        return n;
    }

    int smallest() {
        for (int size = 0; size <= 6; size++) {
            for (int h = 0; h < 64; h++) {
                if (Integer.bitCount(h) == size && (h & ~bits(present(w))) == 0 && carries(h)) return h;
            }
        }
        return NONE;
    }

    int bloc(int party) {
        if (party < 0 || party > 2) throw new IndexOutOfBoundsException();
        int n = 0;
        for (int p : present(w)) if (w.p(p).party == party) n += weight(p);
        return n;
    }

    int kingmaker() { return best(present(w), this::swings); }
    int friends(int p, int q) { return w.likes(p, q) + w.likes(q, p); }

    int[] coupled;
    int coupledSum;

    void couple(int[] with, int p, int sum) {
        if (p == w.n()) {
            if (sum > coupledSum) { coupledSum = sum; coupled = with.clone(); }
            return;
        }
        if (with[p] != NONE) { couple(with, p + 1, sum); return; }
        couple(with, p + 1, sum);
        for (int q = p + 1; q < w.n(); q++) {
            if (with[q] != NONE) continue;
            with[p] = q;
            with[q] = p;
            couple(with, p + 1, sum + friends(p, q));
            with[p] = NONE;
            with[q] = NONE;
        }
    }

    int couples(int p) {
        if (p != NONE) there(p);
        coupledSum = -1;
        int[] with = new int[6];
        Arrays.fill(with, NONE);
        couple(with, 0, 0);
        return p == NONE ? coupledSum : coupled[p];
    }

    int camps() {
        if (w.n() < 2) return NONE;
        List<Integer> sets = new ArrayList<>();
        for (int s = 2; s < 1 << w.n(); s += 2) sets.add(s);
        return best(sets, s -> {
            int sum = 0;
            for (int p = 0; p < w.n(); p++) for (int q = 0; q < p; q++) if ((s >> p & 1) != (s >> q & 1)) sum -= friends(p, q);
            return sum;
        });
    }

    int round(List<Integer> o) {
        int sum = 0;
        if (o.size() == 2) return friends(o.get(0), o.get(1));
        if (o.size() > 2) for (int i = 0; i < o.size(); i++) sum += friends(o.get(i), o.get((i + 1) % o.size()));
        return sum;
    }

    int table(int k) {
        List<Integer> best = null;
        for (List<Integer> o : orders(which(w, i -> true))) {
            if (!o.isEmpty() && o.get(0) != 0) continue;
            if (best == null || round(o) > round(best)) best = o;
        }
        return k == NONE ? round(best) : k < 0 || k >= best.size() ? NONE : best.get(k);
    }

    int slices(int p, int n) {
        there(p);
        in(n, 0, 999);
        int all = count(9);
        if (all == 0) return 0;
        int[] s = new int[w.n()];
        int left = n;
        for (int i = 0; i < w.n(); i++) { s[i] = n * w.p(i).hunger / all; left -= s[i]; }
        for (int i = 0; left > 0; i++, left--) s[i]++;
        return s[p];
    }

    boolean ring(int p) {
        there(p);
        int at = p;
        for (int i = 0; i < 20 && at != NONE; i++) { at = wouldPass(at); if (at == p) return true; }
        return false;
    }

    int rests(int p, int q) {
        two(p, q);
        if (!w.p(p).runs()) throw new IllegalStateException();
        int[][] mine = {{w.likes(q, p) - 5, 3}, {0, 0}};
        int[][] theirs = {{9 - w.p(q).skin, 1}, {-2, 0}};
        int b = 0;
        for (int x = 0; x < 2; x++) for (int y = 0; y < 2; y++) {
            if (mine[1 - x][y] <= mine[x][y] && theirs[x][1 - y] <= theirs[x][y]) b |= 1 << 2 * x + y;
        }
        return b;
    }

    int odds(int n, int k) {
        in(n, 0, 6);
        in(k, 0, 6);
        // Every row of n weeks, with a speech or without, weighed alike.
        long hit = 0, all = 0;
        for (int row = 0; row < 1 << n; row++) {
            long weight = 1;
            for (int i = 0; i < n; i++) weight *= (row >> i & 1) == 1 ? w.speech : 100 - w.speech;
            all += weight;
            if (Integer.bitCount(row) >= k) hit += weight;
        }
        return (int) (hit * 10000 / all);
    }

    int hungriest() { return best(present(w), p -> w.p(p).hunger); }

    int loved() {
        return best(which(w, i -> true), p -> {
            int n = 0;
            for (int q = 0; q < w.n(); q++) if (q != p) n += w.likes(q, p);
            return n;
        });
    }

    int thick() { return bits(which(w, i -> w.p(i).run >= 2 && w.p(i).skin == 0)); }
    int bench() { return benched(w); }
    int crowd() { return bits(which(w, i -> w.p(i).stands)); }
    int never() { return bits(which(w, i -> w.p(i).had == 0)); }

    int alike() {
        int n = 0;
        for (Person p : w.people) for (Person q : w.people) if (p != q && p.party == q.party && p.skin == q.skin) n++;
        return n / 2;
    }

    int ahead(int p, int n, int what) {
        there(p);
        in(n, 0, 60);
        Person x = ahead(w, n).p(p);
        switch (what) {
            case 0: return x.hunger;
            case 1: return x.had;
            case 2: return x.benched ? 1 : 0;
            default: throw new NoSuchElementException();
        }
    }

    int trial(int n, boolean hunger) {
        in(n, 0, 60);
        World c = tried(w, n, w.seed);
        return hunger ? c.people.stream().mapToInt(p -> p.hunger).sum() : benched(c);
    }

    int span(int n, boolean most) {
        in(n, 0, 60);
        List<Integer> all = new ArrayList<>();
        for (int s = 1; s <= 6; s++) all.add(Integer.bitCount(benched(tried(w, n, s))));
        return most ? java.util.Collections.max(all) : java.util.Collections.min(all);
    }

    int led(int p, boolean week) {
        there(p);
        int n = 0, latest = NONE;
        for (int[] row : w.log) if (row[2] == p) { n++; latest = row[0]; }
        return week ? latest : n;
    }

    int log(int ago, int what) {
        if (what < 0 || what > 3) throw new NoSuchElementException();
        return ago < 0 || ago >= w.log.size() ? NONE : w.log.get(w.log.size() - 1 - ago)[what];
    }

    int seed(int n) { int was = w.seed; w.seed = n; return was; }

    boolean undo() {
        if (past.isEmpty()) return false;
        w = past.removeLast();
        return true;
    }

    void image() { image = w.copy(); }

    boolean back() {
        if (image == null) return false;
        w = image.copy();
        past.clear();
        return true;
    }

    int count(int what) {
        switch (what) {
            case 0: return w.n();
            case 1: return w.texts;
            case 2: return w.law == null ? NONE : w.law.size();
            case 3: return w.week;
            case 4: return w.flour;
            case 5: return w.way;
            case 6: return w.speech;
            case 7: return bits(voters(w));
            case 8: return bits(runners(w));
            case 9: return w.people.stream().mapToInt(p -> p.hunger).sum();
            case 10: return w.people.stream().mapToInt(p -> p.had).sum();
            case 11: return w.log.size();
            case 12: return past.size();
            default: return NONE;
        }
    }
}
