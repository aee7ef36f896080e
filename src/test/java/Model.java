import java.util.ArrayList;
import java.util.Arrays;
import java.util.List;

/**
 * The document once more, written another way: GUARDS are objects of classes under one another,
 * TEXTS are read by going down and kept as trees, every thought works on a fresh copy.
 */
final class Model {
    static final int BAD = -1000000001, NO = -1000000002, FULL = -1000000003, NONE = -1000000005,
        NOTHING = -1000000011, KIND = -1000000012, INDEX = -1000000013, SIZE = -1000000014;

    static class Straw {
        int post, wear, doubt;
        boolean up = true;

        int looks(World w) { return w.plain(this); }
        int falls() { return wear / 2; }
        int fights() { return 0; }
        boolean lives() { return false; }
        int worth() { return wear; }
    }

    static class Coated extends Straw {
        int looks(World w) { return super.looks(w) + 12; }
        int falls() { return super.falls() + 4; }
        int worth() { return super.worth() + 5; }
    }

    static class Man extends Straw {
        int looks(World w) { return 99; }
        int falls() { return 0; }
        int fights() { return 10; }
        boolean lives() { return true; }
        int worth() { return 99 - wear; }
    }

    static class General extends Coated {
        int looks(World w) { return 2 * super.looks(w); }
        int worth() { return 2 * super.worth(); }
    }

    static class Sentry extends Man {
        int fights() { return super.fights() + 5; }
        int worth() { return super.worth() - 7; }
    }

    static class Lantern extends Straw {
        int looks(World w) { return super.looks(w) + ((w.night & 1) == 1 ? 20 : 0); }
        int falls() { return 2 * super.falls(); }
        int worth() { return 8; }
    }

    static final List<Class<? extends Straw>> KINDS =
        List.of(Straw.class, Coated.class, Man.class, General.class, Sentry.class, Lantern.class);

    static Straw make(int kind) {
        switch (kind) {
            case 0: return new Straw();
            case 1: return new Coated();
            case 2: return new Man();
            case 3: return new General();
            case 4: return new Sentry();
            default: return new Lantern();
        }
    }

    static Straw copyAs(Straw g, int kind) {
        Straw c = make(kind);
        c.post = g.post;
        c.wear = g.wear;
        c.doubt = g.doubt;
        c.up = g.up;
        return c;
    }

    static int kindOf(Straw g) {
        return KINDS.indexOf(g.getClass());
    }

    interface Tree {
        int value(int[] names);
    }

    static final class Fault extends RuntimeException {
        private static final long serialVersionUID = 1L;
        final int place;

        Fault(int place) {
            super(null, null, false, false);
            this.place = place;
        }
    }

    static final class Row {
        int key, pieces;
        Tree tree;
    }

    static final class Going {
        final String s;
        int at = 0, tokenAt, before = 0, pieces = 0;
        String token;
        String names;
        boolean behindWord = false;

        Going(String s) {
            this.s = s;
            next();
        }

        static boolean letter(char c) { return c >= 'a' && c <= 'z'; }
        static boolean digit(char c) { return c >= '0' && c <= '9'; }

        void next() {
            int from = at;
            while (at < s.length() && s.charAt(at) == ' ') {
                at++;
            }
            tokenAt = at;
            if (at == s.length()) {
                token = "";
                return;
            }
            char c = s.charAt(at);
            boolean word = letter(c) || digit(c);
            if (word && behindWord && at == from) {
                token = "?";
                return;
            }
            at++;
            if (word) {
                while (at < s.length() && letter(c) == letter(s.charAt(at)) && digit(c) == digit(s.charAt(at))) {
                    at++;
                }
            }
            behindWord = word;
            token = s.substring(tokenAt, at);
        }

        Fault fault() {
            return new Fault(tokenAt);
        }

        Row row() {
            Row row = new Row();
            row.key = token.equals("look") ? 0 : token.equals("fee") ? 1 : token.equals("fine") ? 2 : -1;
            if (row.key < 0) {
                throw fault();
            }
            names = row.key == 0 ? "wdp" : row.key == 1 ? "hl" : "wd";
            next();
            row.tree = level(0, 0, 0);
            if (!token.isEmpty()) {
                throw fault();
            }
            row.pieces = pieces;
            return row;
        }

        static final String[] SIGNS = {"|", "&", "<=>", "+-", "*/"};

        boolean here(int level) {
            return token.length() == 1 && SIGNS[level].contains(token);
        }

        Tree level(int level, int open, int nots) {
            if (level == 5) {
                return piece(open, nots);
            }
            Tree left = level(level + 1, open, nots);
            while (here(level)) {
                char sign = token.charAt(0);
                next();
                Tree a = left;
                Tree b = level(level + 1, open, nots);
                left = names -> Model.join(sign, a.value(names), b.value(names));
                if (level == 2) {
                    break;
                }
            }
            return left;
        }

        Tree piece(int open, int nots) {
            if (token.isEmpty()) {
                throw fault();
            }
            if (token.equals("!")) {
                if (nots == 8) {
                    throw fault();
                }
                next();
                Tree inner = piece(open, nots + 1);
                return names -> inner.value(names) == 0 ? 1 : 0;
            }
            if (token.equals("(")) {
                if (open == 8) {
                    throw fault();
                }
                next();
                Tree inner = level(0, open + 1, nots);
                if (!token.equals(")")) {
                    throw fault();
                }
                next();
                return inner;
            }
            if (digit(token.charAt(0)) && token.length() <= 4) {
                int number = Integer.parseInt(token);
                pieces++;
                next();
                return names -> number;
            }
            int which = token.length() == 1 ? names.indexOf(token) : -1;
            if (which < 0) {
                throw fault();
            }
            pieces++;
            next();
            return names -> names[which];
        }
    }

    static int join(char sign, int a, int b) {
        switch (sign) {
            case '|': return (a == 0 ? 0 : 1) | (b == 0 ? 0 : 1);
            case '&': return (a == 0 ? 0 : 1) & (b == 0 ? 0 : 1);
            case '<': return a < b ? 1 : 0;
            case '=': return a == b ? 1 : 0;
            case '>': return a > b ? 1 : 0;
            case '+': return (int) ((long) a + b);
            case '-': return (int) ((long) a - b);
            case '*': return (int) ((long) a * b);
            default: return b == 0 ? 0 : (int) ((long) a / b);
        }
    }

    static int held(int v, int least, int most) {
        return v < least ? least : v > most ? most : v;
    }

    static final class World {
        List<Straw> guards = new ArrayList<>();
        int sight = 3, rain = 30, courage = 200, force = 20;
        int fallen, heldRaids, lost, night, z = 1;
        List<Row> rows = new ArrayList<>();

        World copy() {
            World c = new World();
            for (Straw g : guards) {
                c.guards.add(copyAs(g, kindOf(g)));
            }
            c.sight = sight;
            c.rain = rain;
            c.courage = courage;
            c.force = force;
            c.fallen = fallen;
            c.heldRaids = heldRaids;
            c.lost = lost;
            c.night = night;
            c.z = z;
            c.rows.addAll(rows);
            return c;
        }

        int why(int key) {
            for (int i = rows.size() - 1; i >= 0; i--) {
                if (rows.get(i).key == key) {
                    return i;
                }
            }
            return NONE;
        }

        int plain(Straw g) {
            int text = why(0);
            if (text == NONE) {
                return held(60 - g.wear / 2, 0, 99);
            }
            return held(rows.get(text).tree.value(new int[] {g.wear, g.doubt, g.post}), 0, 99);
        }

        int draw() {
            z = (int) ((long) z * 1103515245L + 12345L);
            return (int) ((z & 0xFFFFFFFFL) / 256);
        }

        int counted() {
            return guards.stream().filter(g -> g.up && g.doubt < 50).mapToInt(g -> g.looks(this)).sum();
        }

        int strength() {
            return guards.stream().filter(g -> g.up).mapToInt(Straw::fights).sum();
        }

        int doubts() {
            return guards.stream().mapToInt(g -> g.doubt).sum();
        }

        Straw owner(int post) {
            for (Straw g : guards) {
                if (g.post == post) {
                    return g;
                }
            }
            return null;
        }

        boolean night() {
            int wind = draw() % 100;
            for (Straw g : guards) {
                if (g.up && g.falls() > wind) {
                    g.up = false;
                    fallen++;
                }
            }
            for (Straw g : guards) {
                if (g.up && g.lives()) {
                    for (Straw other : guards) {
                        if (!other.up && Math.abs(other.post - g.post) < 3) {
                            other.up = true;
                            break;
                        }
                    }
                }
            }
            int from = draw() % 20;
            for (Straw g : guards) {
                if (Math.abs(g.post - from) <= sight) {
                    if (!g.up) {
                        g.doubt += 20;
                    } else if (g.looks(this) < 40) {
                        g.doubt += 9;
                    } else {
                        g.doubt -= 3;
                    }
                    g.doubt = held(g.doubt, 0, 99);
                }
            }
            if (draw() % 100 < rain) {
                for (Straw g : guards) {
                    if (!g.lives()) {
                        g.wear = held(g.wear + 3, 0, 99);
                    }
                }
            }
            boolean raid = counted() < courage;
            if (raid && strength() >= force) {
                heldRaids++;
            } else if (raid) {
                lost++;
            }
            night++;
            return raid;
        }

        World behind(int n) {
            World c = copy();
            for (int i = 0; i < n; i++) {
                c.night();
            }
            return c;
        }
    }

    World now = new World();
    World image = null;
    String tape = "";
    /** Of shorts Short, of floats Float, or null: NO NUMBER. */
    Number[][] sheets = new Number[4][];
    boolean[] floats = new boolean[4];
    Object[] slots = new Object[5];
    List<Integer> waiting = new ArrayList<>();

    Straw g(int guard) {
        return guard >= 0 && guard < now.guards.size() ? now.guards.get(guard) : null;
    }

    static boolean in(int v, int least, int most) {
        return least <= v && v <= most;
    }

    public int guard(int kind, int post, int wear) {
        if (!in(kind, 0, 5) || !in(post, 0, 19) || !in(wear, 0, 99)) return BAD;
        if (now.owner(post) != null) return NO;
        if (now.guards.size() == 10) return FULL;
        Straw g = make(kind);
        g.post = post;
        g.wear = wear;
        now.guards.add(g);
        return now.guards.size() - 1;
    }

    public int told(int guard, int what) {
        Straw g = g(guard);
        if (g == null || !in(what, 0, 8)) return BAD;
        return new int[] {kindOf(g), g.post, g.wear, g.doubt, g.up ? 1 : 0, g.looks(now), g.falls(), g.fights(),
            g.worth()}[what];
    }

    public int as(int guard, int kind) {
        Straw g = g(guard);
        if (g == null || !in(kind, 0, 5)) return BAD;
        return KINDS.get(kind).isInstance(g) ? g.wear : KIND;
    }

    public int turns(int guard, int kind) {
        Straw g = g(guard);
        if (g == null || !in(kind, 0, 5)) return BAD;
        now.guards.set(guard, copyAs(g, kind));
        return kindOf(g);
    }

    public int set(int guard, int what, int v) {
        Straw g = g(guard);
        if (g == null || !in(what, 2, 4) || !in(v, 0, what < 4 ? 99 : 1)) return BAD;
        int was = told(guard, what);
        if (what == 2) g.wear = v;
        if (what == 3) g.doubt = v;
        if (what == 4) g.up = v == 1;
        return was;
    }

    public int moves(int guard, int post) {
        Straw g = g(guard);
        if (g == null || !in(post, 0, 19)) return BAD;
        if (now.owner(post) != null) return NO;
        int was = g.post;
        g.post = post;
        return was;
    }

    public int at(int post) {
        if (!in(post, 0, 19)) return BAD;
        int owner = now.guards.indexOf(now.owner(post));
        return owner < 0 ? NONE : owner;
    }

    public int rule(int what, int v) {
        int was;
        if (what == 0 && in(v, 0, 19)) {
            was = now.sight;
            now.sight = v;
        } else if (what == 1 && in(v, 0, 100)) {
            was = now.rain;
            now.rain = v;
        } else if (what == 2 && in(v, 0, 999)) {
            was = now.courage;
            now.courage = v;
        } else if (what == 3 && in(v, 0, 999)) {
            was = now.force;
            now.force = v;
        } else {
            was = BAD;
        }
        return was;
    }

    public int deal(int n) {
        if (!in(n, 1, 10)) return BAD;
        int came = 0;
        while (came < n && now.guards.size() < 10) {
            Straw g = make(now.draw() % 6);
            g.post = now.draw() % 20;
            while (now.owner(g.post) != null) {
                g.post = g.post == 19 ? 0 : g.post + 1;
            }
            g.wear = now.draw() % 60;
            now.guards.add(g);
            came++;
        }
        return came;
    }

    public int seed(int v) {
        int was = now.z;
        now.z = v;
        return was;
    }

    public int seen(int post) {
        if (!in(post, 0, 19)) return BAD;
        int bits = 0;
        for (int g = 0; g < now.guards.size(); g++) {
            if (Math.abs(g(g).post - post) <= now.sight) bits += 1 << g;
        }
        return bits;
    }

    public int nights(int n) {
        if (!in(n, 1, 100)) return BAD;
        int raids = 0;
        for (int i = 0; i < n && now.night < 9999; i++) {
            if (now.night()) raids++;
        }
        return raids;
    }

    public int border(int what) {
        if (!in(what, 0, 6)) return BAD;
        int down = 0;
        for (int g = 0; g < now.guards.size(); g++) {
            if (!g(g).up) down += 1 << g;
        }
        return new int[] {now.fallen, now.heldRaids, now.lost, now.counted(), now.strength(), down, now.doubts()}[what];
    }

    public int covers(int guard, int what) {
        Straw g = g(guard);
        if (g == null || !in(what, 0, 1)) return BAD;
        int[] near = new int[20];
        Arrays.fill(near, -1);
        for (int post = 19; post >= 0; post--) {
            if (now.owner(post) == null || now.owner(post) == g) {
                int at = post;
                near[post] = (int) now.guards.stream()
                    .filter(o -> o != g && !o.lives() && Math.abs(o.post - at) <= 2).count();
            }
        }
        int most = Arrays.stream(near).max().getAsInt();
        for (int post = 0; post < 20; post++) {
            if (near[post] == most) return what == 0 ? post : most;
        }
        throw new IllegalStateException();
    }

    /** Every set of places is tried, from the smallest number on: the first that reaches all is it. */
    public int fewest() {
        int[] posts = now.guards.stream().filter(g -> !g.lives()).mapToInt(g -> g.post).toArray();
        for (int many = 0; ; many++) {
            if (reach(posts, new boolean[posts.length], many)) return many;
        }
    }

    private static boolean reach(int[] posts, boolean[] reached, int many) {
        int first = -1;
        for (int i = 0; i < posts.length && first < 0; i++) {
            if (!reached[i]) first = i;
        }
        if (first < 0) return true;
        if (many == 0) return false;
        for (int at = posts[first] - 2; at <= posts[first] + 2; at++) {
            boolean[] more = reached.clone();
            for (int i = 0; i < posts.length; i++) {
                if (Math.abs(posts[i] - at) <= 2) more[i] = true;
            }
            if (reach(posts, more, many - 1)) return true;
        }
        return false;
    }

    public int behind(int n, int what) {
        if (!in(n, 0, 100) || what < 0 || what >= 4 + now.guards.size()) return BAD;
        World w = now.behind(n);
        if (what == 0) return w.fallen;
        if (what == 1) return w.heldRaids;
        if (what == 2) return w.lost;
        return what == 3 ? w.counted() : w.guards.get(what - 4).doubt;
    }

    public int bluff() {
        World w = now.copy();
        for (int n = 1; n <= 200; n++) {
            if (w.night()) return n;
        }
        return NONE;
    }

    public int washed(int n, int what) {
        if (!in(n, 1, 60) || !in(what, 0, 1)) return BAD;
        if (now.guards.isEmpty()) return NONE;
        int[] counted = new int[now.guards.size()];
        for (int g = 0; g < counted.length; g++) {
            World w = now.copy();
            w.guards.get(g).wear = 0;
            counted[g] = w.behind(n).counted();
        }
        return most(counted, what);
    }

    private static int most(int[] row, int what) {
        int best = row.length - 1;
        for (int i = row.length - 1; i >= 0; i--) {
            if (row[i] >= row[best]) best = i;
        }
        return what == 0 ? best : row[best];
    }

    public int needed(int n) {
        if (!in(n, 1, 60)) return BAD;
        for (int sight = 0; sight < 20; sight++) {
            World w = now.copy();
            w.sight = sight;
            int raids = 0;
            for (int i = 0; i < n; i++) raids += w.night() ? 1 : 0;
            if (raids == 0) return sight;
        }
        return NONE;
    }

    public int becomes(int guard, int n, int what) {
        if (g(guard) == null || !in(n, 1, 60) || !in(what, 0, 1)) return BAD;
        int[] counted = new int[6];
        for (int kind = 0; kind < 6; kind++) {
            World w = now.copy();
            w.guards.set(guard, copyAs(w.guards.get(guard), kind));
            counted[kind] = w.behind(n).counted();
        }
        return most(counted, what);
    }

    public int like(int sheet, int what) {
        if (!in(sheet, 0, 3) || !in(what, 0, 1)) return BAD;
        if (sheets[sheet] == null) return NOTHING;
        if (now.guards.isEmpty()) return NONE;
        int[] closeness = new int[now.guards.size()];
        for (int k = 0; k < sheets[sheet].length; k++) {
            if (sheets[sheet][k] == null) continue;
            World w = now.behind(k);
            for (int g = 0; g < closeness.length; g++) {
                closeness[g] -= Math.abs(w.guards.get(g).doubt - sheets[sheet][k].intValue());
            }
        }
        int answer = most(closeness, what);
        return what == 0 ? answer : -answer;
    }

    public int fee() {
        int text = now.why(1);
        return text == NONE ? now.heldRaids : now.rows.get(text).tree.value(new int[] {now.heldRaids, now.lost});
    }

    public int fine(int guard) {
        Straw g = g(guard);
        if (g == null) return BAD;
        int text = now.why(2);
        return text == NONE ? g.doubt : now.rows.get(text).tree.value(new int[] {g.wear, g.doubt});
    }

    public int feed(int a, int b, int c) {
        if (tape.length() > 84) return FULL;
        StringBuilder more = new StringBuilder(tape);
        for (int v : new int[] {a, b, c}) {
            more.append((char) (v >> 24 & 255)).append((char) (v >> 16 & 255));
            more.append((char) (v >> 8 & 255)).append((char) (v & 255));
        }
        tape = more.toString();
        return tape.length();
    }

    public int trim(int n) {
        if (!in(n, 0, tape.length())) return BAD;
        tape = tape.substring(0, n);
        return n;
    }

    public int text() {
        String s = tape;
        tape = "";
        Row row;
        try {
            row = new Going(s).row();
        } catch (Fault fault) {
            return -100 - fault.place;
        }
        if (now.rows.size() == 14) return FULL;
        now.rows.add(row);
        return now.rows.size() - 1;
    }

    public int textTold(int text, int what) {
        if (text < 0 || text >= now.rows.size() || !in(what, 0, 1)) return BAD;
        return what == 0 ? now.rows.get(text).key : now.rows.get(text).pieces;
    }

    public int why(int key) {
        return in(key, 0, 2) ? now.why(key) : BAD;
    }

    public int sheet(int sheet, int sort, int n) {
        if (!in(sheet, 0, 3) || !in(sort, -1, 1) || sort >= 0 && n > 24) return BAD;
        if (sort >= 0 && n < 0) return SIZE;
        if (sort < 0) {
            sheets[sheet] = null;
            return 0;
        }
        sheets[sheet] = new Number[n];
        floats[sheet] = sort == 1;
        for (int i = 0; i < n; i++) {
            sheets[sheet][i] = sort == 1 ? (Number) Float.valueOf(0) : (Number) Short.valueOf((short) 0);
        }
        return n;
    }

    public int mark(int sheet, int place, int v) {
        if (!in(sheet, 0, 3)) return BAD;
        if (sheets[sheet] == null) return NOTHING;
        if (place < 0 || place >= sheets[sheet].length) return INDEX;
        if (!floats[sheet]) {
            if (v == NONE) return KIND;
            sheets[sheet][place] = (short) (v & 65535);
            return 1;
        }
        if (v != NONE && !in(v, -99999, 99999)) return BAD;
        sheets[sheet][place] = v == NONE ? null : (Number) Float.valueOf(v);
        return 1;
    }

    public int pour(int sheet) {
        if (!in(sheet, 0, 3)) return BAD;
        if (sheets[sheet] == null) return NOTHING;
        int changed = 0;
        for (int i = 0; i < sheets[sheet].length && i < now.guards.size(); i++) {
            if (sheets[sheet][i] != null) {
                int was = g(i).wear;
                g(i).wear = held(sheets[sheet][i].intValue(), 0, 99);
                changed += was == g(i).wear ? 0 : 1;
            }
        }
        return changed;
    }

    public int reads(int sheet) {
        if (!in(sheet, 0, 3)) return BAD;
        if (sheets[sheet] == null) return NOTHING;
        for (int i = 0; i < sheets[sheet].length; i++) {
            if (sheets[sheet][i] == null) continue;
            if (g(i) == null || g(i).post != sheets[sheet][i].intValue()) return i;
        }
        return NONE;
    }

    public int copy(int from, int place, int to, int at, int many) {
        if (!in(from, 0, 3) || !in(to, 0, 3)) return BAD;
        if (sheets[from] == null || sheets[to] == null) return NOTHING;
        if (floats[from] != floats[to]) return KIND;
        if (place < 0 || at < 0 || many < 0) return INDEX;
        if ((long) place + many > sheets[from].length || (long) at + many > sheets[to].length) return INDEX;
        Number[] was = sheets[from].clone();
        for (int i = 0; i < many; i++) {
            sheets[to][at + i] = was[place + i];
        }
        return many;
    }

    private static int thing(Object held) {
        return held == null ? 0 : held instanceof Straw ? 1 : held instanceof Number[] ? 2 : 3;
    }

    public int lay(int slot, int thing, int k) {
        if (!in(slot, 0, 4) || !in(thing, 0, 3)) return BAD;
        Object held = null;
        if (thing == 1) {
            if (g(k) == null) return BAD;
            held = copyAs(g(k), kindOf(g(k)));
        }
        if (thing == 2) {
            if (!in(k, 0, 3)) return BAD;
            if (sheets[k] == null) return NOTHING;
            held = sheets[k].clone();
        }
        if (thing == 3) held = k;
        int was = thing(slots[slot]);
        slots[slot] = held;
        return was;
    }

    public int ask(int slot, int kind) {
        if (!in(slot, 0, 4) || !in(kind, 0, 5)) return BAD;
        Object held = slots[slot];
        if (held == null) return NOTHING;
        return KINDS.get(kind).isInstance(held) ? ((Straw) held).worth() : KIND;
    }

    public int item(int slot, int place) {
        if (!in(slot, 0, 4)) return BAD;
        Object held = slots[slot];
        if (held == null) return NOTHING;
        if (!(held instanceof Number[])) return KIND;
        Number[] row = (Number[]) held;
        if (place < 0 || place >= row.length) return INDEX;
        return row[place] == null ? KIND : row[place].intValue();
    }

    public int rest(int slot, int n) {
        if (!in(slot, 0, 4)) return BAD;
        Object held = slots[slot];
        if (held == null) return NOTHING;
        if (!(held instanceof Integer)) return KIND;
        return n == 0 ? NO : (int) ((long) (Integer) held % n);
    }

    public int tell(int v) {
        if (waiting.size() == 60) return FULL;
        waiting.add(v);
        return waiting.size();
    }

    public int check(int n) {
        List<Integer> told = waiting;
        waiting = new ArrayList<>();
        if (!in(n, 1, 30)) return BAD;
        if (image == null) return NO;
        List<Integer> right = new ArrayList<>();
        World w = image.copy();
        for (int i = 0; i < n && w.night < 9999; i++) {
            w.night();
            right.add(w.fallen);
            right.add(w.doubts());
        }
        if (told.equals(right)) return 0;
        int same = 0;
        while (same < told.size() && same < right.size() && told.get(same).equals(right.get(same))) same++;
        return 1 + same;
    }

    public int keep() {
        image = now.copy();
        return image.guards.size();
    }

    public int back() {
        if (image == null) return NO;
        now = image.copy();
        return now.guards.size();
    }

    public int count(int what) {
        if (!in(what, 0, 9)) return BAD;
        return new int[] {now.guards.size(), now.night, now.sight, now.rain, now.courage, now.force, now.rows.size(),
            waiting.size(), tape.length(), now.z}[what];
    }
}
