import java.util.ArrayList;
import java.util.List;
import java.util.NoSuchElementException;
import java.util.TreeSet;

/**
 * The document once more, in its slowest and plainest form, written apart from the program: what
 * the program answers is compared with what this answers.
 */
public final class Model {
    static final int NONE = -1;

    /** A place of an expression's values. */
    record Values(int strain, int place, int hold, int day, int open, int bursts) { }

    interface Expr { int of(Values v); }

    static final class Fault extends Exception {
        private static final long serialVersionUID = 1L;
        final int kind;
        final int at;
        Fault(int kind, int at) { this.kind = kind; this.at = at; }
    }

    static final class Zip {
        final boolean coil;
        final int[][] teeth;
        final boolean[] closed;
        int height;

        Zip(boolean coil, List<Integer> left, List<Integer> right) {
            this.coil = coil;
            teeth = new int[][] {ints(left), ints(right)};
            closed = new boolean[left.size()];
            slid(left.size());
        }

        Zip(Zip z) {
            coil = z.coil;
            teeth = new int[][] {z.teeth[0].clone(), z.teeth[1].clone()};
            closed = z.closed.clone();
            height = z.height;
        }

        static int[] ints(List<Integer> l) { return l.stream().mapToInt(i -> i).toArray(); }
        int n() { return closed.length; }
        int hold(int p) { return Math.min(teeth[0][p], teeth[1][p]); }
        void slid(int h) {
            height = h;
            for (int p = 0; p < n(); p++) closed[p] = p < h && hold(p) > 0;
        }
        int open(int p) {
            int o = 0;
            for (int q : new int[] {p - 1, p + 1}) if (q >= 0 && q < n() && !closed[q]) o++;
            return o;
        }
        int bits() { int b = 0; for (int p = 0; p < n(); p++) if (closed[p]) b += 1 << p; return b; }
        int many() { return Integer.bitCount(bits()); }
        int grips() { int s = 0; for (int[] t : teeth) for (int g : t) s += g; return s; }
        /** Runs as {lowest, length}. */
        List<int[]> runs() {
            List<int[]> r = new ArrayList<>();
            for (int p = 0; p < n(); p++) {
                if (!closed[p]) continue;
                if (p > 0 && closed[p - 1]) r.get(r.size() - 1)[1]++;
                else r.add(new int[] {p, 1});
            }
            return r;
        }
        int[] longest() {
            int[] best = {NONE, 0};
            for (int[] r : runs()) if (r[1] > best[1]) best = r;
            return best;
        }
    }

    static final class State {
        final List<Zip> zips = new ArrayList<>();
        int day;
        State copy() {
            State s = new State();
            for (Zip z : zips) s.zips.add(new Zip(z));
            s.day = day;
            return s;
        }
    }

    record Noted(int zip, int place, int days, boolean closed) { }

    static final class Image {
        State state;
        List<State> acts;
        List<Noted> notes;
        int[] status;
    }

    private final StringBuilder tape = new StringBuilder();
    private int faultAt = NONE;
    private State now = new State();
    private List<Integer> strain = new ArrayList<>();
    private Expr pulls;
    private Expr wears;
    private List<State> acts = new ArrayList<>();
    private List<Noted> notes = new ArrayList<>();
    private int[] status = new int[3];
    private Image image;

    // ---- the text ----

    public int feed(int a, int b, int c, int d, int e) {
        if (tape.length() > 680) return NONE;
        for (int x : new int[] {a, b, c, d, e})
            for (int i = 3; i >= 0; i--) tape.append((char) (x >>> 8 * i & 255));
        return tape.length();
    }

    public int drawer(int n) {
        if (n < 0 || n > tape.length()) throw new IllegalArgumentException();
        String text = tape.substring(0, n);
        tape.setLength(0);
        try {
            Reading r = new Reading(text);
            r.drawer();
            now = new State();
            now.zips.addAll(r.zips);
            strain = r.strain == null ? new ArrayList<>() : r.strain;
            pulls = r.pulls;
            wears = r.wears;
            acts = new ArrayList<>();
            notes = new ArrayList<>();
            image = null;
            faultAt = NONE;
            return 0;
        } catch (Fault f) {
            status[0]++;
            faultAt = f.at;
            return f.kind;
        }
    }

    public int fault() { return faultAt; }

    /** A token: its text ("" at the end), its place. */
    record Token(String text, int at) {
        boolean word() { return text.matches("[a-z]+"); }
        boolean number() { return text.matches("[0-9]+"); }
        boolean is(String s) { return text.equals(s); }
    }

    static final class Reading {
        final List<Token> tokens = new ArrayList<>();
        int i = 0;
        final List<Zip> zips = new ArrayList<>();
        List<Integer> strain;
        Expr pulls;
        Expr wears;

        Reading(String text) {
            java.util.regex.Matcher m = java.util.regex.Pattern
                .compile("[a-z]+|[0-9]+|[^ \\n]", java.util.regex.Pattern.DOTALL).matcher(text);
            while (m.find()) tokens.add(new Token(m.group(), m.start()));
            tokens.add(new Token("", text.length()));
        }

        Token t() { return tokens.get(i); }
        Fault fault(int kind) { return new Fault(kind, t().at); }
        void need(String s) throws Fault { if (!t().is(s)) throw fault(1); i++; }

        int told() throws Fault {
            if (!t().number()) throw fault(1);
            if (t().text.length() > 4 || Integer.parseInt(t().text) > 9) throw fault(2);
            return Integer.parseInt(tokens.get(i++).text);
        }

        void drawer() throws Fault {
            while (!t().is("")) {
                switch (t().text) {
                    case "zip", "coil" -> zip();
                    case "strain" -> strains();
                    case "pulls" -> {
                        if (pulls != null) throw fault(5);
                        i++;
                        pulls = expr(true, 0);
                    }
                    case "wears" -> {
                        if (wears != null) throw fault(5);
                        i++;
                        wears = expr(false, 0);
                    }
                    default -> throw fault(1);
                }
                need(";");
            }
        }

        void zip() throws Fault {
            if (zips.size() == 4) throw fault(2);
            boolean coil = t().is("coil");
            i++;
            List<Integer> left = new ArrayList<>();
            List<Integer> right = new ArrayList<>();
            left.add(told());
            while (!t().is("to")) {
                if (t().number() && left.size() == 16) throw fault(2);
                left.add(told());
            }
            i++;
            while (right.size() < left.size()) right.add(told());
            if (t().is(";")) zips.add(new Zip(coil, left, right));
        }

        void strains() throws Fault {
            if (strain != null) throw fault(5);
            i++;
            List<Integer> s = new ArrayList<>();
            s.add(told());
            while (!t().is(";")) {
                if (t().number() && s.size() == 8) throw fault(2);
                s.add(told());
            }
            strain = s;
        }

        Expr expr(boolean p, int within) throws Fault {
            if (within == 6 && (t().number() || t().word() || t().is("("))) throw fault(2);
            Expr e = and(p, within);
            while (t().is("or")) {
                i++;
                Expr a = e;
                Expr b = and(p, within);
                e = v -> a.of(v) != 0 | b.of(v) != 0 ? 1 : 0;
            }
            return e;
        }

        Expr and(boolean p, int within) throws Fault {
            Expr e = not(p, within, 0);
            while (t().is("and")) {
                i++;
                Expr a = e;
                Expr b = not(p, within, 0);
                e = v -> a.of(v) != 0 & b.of(v) != 0 ? 1 : 0;
            }
            return e;
        }

        Expr not(boolean p, int within, int nots) throws Fault {
            if (t().is("not")) {
                if (nots == 6) throw fault(2);
                i++;
                Expr a = not(p, within, nots + 1);
                return v -> a.of(v) == 0 ? 1 : 0;
            }
            Expr a = sum(p, within);
            if (!t().is("<") && !t().is("=")) return a;
            boolean less = t().is("<");
            i++;
            Expr b = sum(p, within);
            return v -> (less ? a.of(v) < b.of(v) : a.of(v) == b.of(v)) ? 1 : 0;
        }

        Expr sum(boolean p, int within) throws Fault {
            Expr e = product(p, within);
            while (t().is("+") || t().is("-")) {
                boolean plus = t().is("+");
                i++;
                Expr a = e;
                Expr b = product(p, within);
                e = v -> plus ? a.of(v) + b.of(v) : a.of(v) - b.of(v);
            }
            return e;
        }

        Expr product(boolean p, int within) throws Fault {
            Expr e = part(p, within);
            while (t().is("*") || t().is("/")) {
                boolean times = t().is("*");
                i++;
                Expr a = e;
                Expr b = part(p, within);
                e = v -> times ? a.of(v) * b.of(v) : b.of(v) == 0 ? 0 : a.of(v) / b.of(v);
            }
            return e;
        }

        Expr part(boolean p, int within) throws Fault {
            Token t = t();
            if (t.number()) {
                if (t.text.length() > 4) throw fault(2);
                i++;
                int n = Integer.parseInt(t.text);
                return v -> n;
            }
            if (t.is("(")) {
                i++;
                Expr e = expr(p, within + 1);
                need(")");
                return e;
            }
            if (!t.word()) throw fault(1);
            Expr e = switch (t.text) {
                case "strain" -> Values::strain;
                case "place" -> Values::place;
                case "hold" -> Values::hold;
                case "day" -> Values::day;
                case "open" -> p ? Values::open : null;
                case "bursts" -> p ? null : Values::bursts;
                default -> null;
            };
            if (e == null) throw fault(3);
            i++;
            return e;
        }
    }

    // ---- a day ----

    static int kept(int x, int to) { return x < 0 ? 0 : x > to ? to : x; }

    static int strainOf(List<Integer> strain, int day) {
        return strain.isEmpty() ? 4 : strain.get(day % strain.size());
    }

    /** Places that burst, in their order in time. */
    List<Integer> day(Zip z, int s, int day) {
        List<Integer> burst = new ArrayList<>();
        boolean any = true;
        while (any) {
            any = false;
            for (int p = 0; p < z.n(); p++) {
                if (!z.closed[p]) continue;
                int pull = pulls == null ? s + 2 * z.open(p)
                    : pulls.of(new Values(s, p, z.hold(p), day, z.open(p), -12345));
                if (kept(pull, 99) <= z.hold(p)) continue;
                int less = wears == null ? 1
                    : wears.of(new Values(s, p, z.hold(p), day, -12345, burst.size()));
                if (!z.coil) {
                    for (int[] tape : z.teeth) tape[p] = Math.max(0, tape[p] - kept(less, 9));
                }
                z.closed[p] = false;
                burst.add(p);
                any = true;
            }
        }
        return burst;
    }

    /** Lets a day of these strains go by: places that burst, zip by zip. */
    List<List<Integer>> day(State s, List<Integer> strains) {
        List<List<Integer>> all = new ArrayList<>();
        for (Zip z : s.zips) all.add(day(z, strainOf(strains, s.day), s.day));
        s.day++;
        return all;
    }

    static int sizes(List<List<Integer>> all) { int n = 0; for (List<Integer> l : all) n += l.size(); return n; }

    State after(State from, int days) {
        State s = from.copy();
        for (int i = 0; i < days; i++) day(s, strain);
        return s;
    }

    // ---- checks ----

    Zip z(State s, int zip) {
        if (zip < 0 || zip >= s.zips.size()) throw new NoSuchElementException();
        return s.zips.get(zip);
    }
    Zip z(int zip) { return z(now, zip); }
    void p(int zip, int place) { if (place < 0 || place >= z(zip).n()) throw new NoSuchElementException(); }
    static void w(int what, int n) { if (what < 0 || what >= n) throw new NoSuchElementException(); }
    static void r(int x, int a, int b) { if (x < a || x > b) throw new IllegalArgumentException(); }

    // ---- now ----

    public int count(int what) {
        w(what, 12);
        int closed = 0;
        int grips = 0;
        for (Zip z : now.zips) { closed += z.many(); grips += z.grips(); }
        int twins = 0;
        for (Zip a : now.zips) for (Zip b : now.zips)
            if (now.zips.indexOf(a) < now.zips.indexOf(b) && java.util.Arrays.deepEquals(a.teeth, b.teeth)) twins++;
        return new int[] {now.zips.size(), now.day, strainOf(strain, now.day), closed, grips, twins,
            acts.size(), notes.size(), tape.length(), status[0], status[1], status[2]}[what];
    }

    public int zip(int zip, int what) {
        Zip z = z(zip);
        w(what, 10);
        int holds = 0;
        int weakest = NONE;
        for (int p = 0; p < z.n(); p++) {
            if (z.hold(p) > 0) holds += 1 << p;
            if (z.closed[p] && (weakest == NONE || z.hold(p) < z.hold(weakest))) weakest = p;
        }
        int bears = NONE;
        while (bears < 99 && day(new Zip(z), bears + 1, now.day).isEmpty()) bears++;
        return new int[] {z.n(), z.height, z.bits(), holds, z.coil ? 1 : 0, z.runs().size(), z.longest()[1],
            z.longest()[0], weakest, bears}[what];
    }

    public int place(int zip, int place, int what) {
        p(zip, place);
        w(what, 5);
        Zip z = z(zip);
        return new int[] {z.teeth[0][place], z.teeth[1][place], z.hold(place), z.closed[place] ? 1 : 0, z.open(place)}[what];
    }

    public int gap(int zip) {
        Zip z = new Zip(z(zip));
        z.slid(z.n());
        return z.many() - z(zip).many();
    }

    public int unlike(int zip, int other) {
        Zip a = z(zip);
        Zip b = z(other);
        if (a.n() != b.n()) return NONE;
        int s = 0;
        for (int t = 0; t < 2; t++) for (int p = 0; p < a.n(); p++) s += Math.abs(a.teeth[t][p] - b.teeth[t][p]);
        return s;
    }

    // ---- acts ----

    boolean act(boolean may) {
        if (!may) { status[1]++; return false; }
        acts.add(now.copy());
        if (acts.size() > 40) acts.remove(0);
        return true;
    }

    public int days(int many) {
        if (!act(many >= 1 && many <= 20 && now.day + many <= 999)) return NONE;
        now = after(now, many);
        return now.day;
    }

    public int slide(int zip, int height) {
        z(zip);
        if (!act(height >= 0 && height <= z(zip).n())) return NONE;
        z(zip).slid(height);
        return z(zip).many();
    }

    public int pinch(int zip, int tape, int place) {
        p(zip, place);
        w(tape, 2);
        int g = z(zip).teeth[tape][place];
        if (!act(g != 0 && g != 9)) return NONE;
        return ++z(zip).teeth[tape][place];
    }

    public boolean set(int zip, int tape, int place, int grip) {
        p(zip, place);
        w(tape, 2);
        if (!act(z(zip).teeth[tape][place] == 0 && grip >= 1 && grip <= 9)) return false;
        z(zip).teeth[tape][place] = grip;
        return true;
    }

    public boolean swap(int zip, int other) {
        z(zip);
        z(other);
        if (!act(zip != other && z(zip).n() == z(other).n())) return false;
        int[] l = z(zip).teeth[0];
        z(zip).teeth[0] = z(other).teeth[0];
        z(other).teeth[0] = l;
        z(zip).slid(0);
        z(other).slid(0);
        return true;
    }

    public int undo() {
        if (acts.isEmpty()) return NONE;
        now = acts.remove(acts.size() - 1);
        return acts.size();
    }

    // ---- ahead ----

    public int then(int zip, int days, int what) {
        z(zip);
        w(what, 5);
        r(days, 0, 60);
        State s = now.copy();
        int bursts = 0;
        for (int i = 0; i < days; i++) bursts += day(s, strain).get(zip).size();
        Zip z = z(s, zip);
        return new int[] {z.bits(), z.many(), z.grips(), z.longest()[1], bursts}[what];
    }

    public int when(int zip, int what) {
        z(zip);
        w(what, 3);
        for (int d = 0; d <= 60; d++) {
            State s = after(now, d);
            if (what == 2) {
                if (z(s, zip).many() == 0) return d;
            } else if (d < 60) {
                List<Integer> b = day(s, strain).get(zip);
                if (!b.isEmpty()) return what == 0 ? d + 1 : b.get(0);
            }
        }
        return NONE;
    }

    public int bursts(int zip, int place) {
        p(zip, place);
        State s = now.copy();
        for (int d = 1; d <= 60; d++) if (day(s, strain).get(zip).contains(place)) return d;
        return NONE;
    }

    public int later(int days, int what) {
        w(what, 2);
        r(days, 0, 60);
        State s = after(now, days);
        int all = 0;
        int best = NONE;
        for (int i = 0; i < s.zips.size(); i++) {
            all += z(s, i).many();
            if (best == NONE || z(s, i).many() > z(s, best).many()) best = i;
        }
        return what == 0 ? all : best;
    }

    public int daily(int zip, int days) {
        z(zip);
        r(days, 0, 60);
        State s = now.copy();
        int b = 0;
        for (int i = 0; i < days; i++) {
            z(s, zip).slid(z(zip).n());
            b += day(s, strain).get(zip).size();
        }
        return b;
    }

    public int lasts(int zip) {
        Zip z = z(zip);
        State s = now.copy();
        for (int d = 1; d <= 60; d++) {
            z(s, zip).slid(z.n());
            day(s, strain);
            for (int p = 0; p < z.n(); p++) if (z.hold(p) > 0 && z(s, zip).hold(p) == 0) return d;
        }
        return NONE;
    }

    public int tear(int zip, int place, int strain) {
        p(zip, place);
        r(strain, 0, 99);
        Zip z = new Zip(z(zip));
        z.closed[place] = false;
        int bits = 0;
        for (int p : day(z, strain, now.day)) bits |= 1 << p;
        return bits;
    }

    public int calm(int days) {
        r(days, 1, 60);
        State s = now.copy();
        int n = 0;
        for (int i = 0; i < days; i++) if (sizes(day(s, strain)) == 0) n++;
        return n;
    }

    public int worst(int days, int what) {
        w(what, 2);
        r(days, 1, 60);
        State s = now.copy();
        int[] best = {0, -1};
        for (int d = 1; d <= days; d++) {
            int n = sizes(day(s, strain));
            if (n > best[1]) best = new int[] {d, n};
        }
        return best[what];
    }

    public int most(int zip, int days) {
        z(zip);
        r(days, 0, 60);
        State s = now.copy();
        int m = 0;
        for (int d = 1; d <= days; d++) m = Math.max(m, day(s, strain).get(zip).size());
        return m;
    }

    // ---- tapes ----

    public int offset(int zip, int other, int what) {
        int[] l = z(zip).teeth[0];
        int[] r = z(other).teeth[1];
        w(what, 2);
        int[] best = null;
        for (int k = -20; k <= 20; k++) {
            int met = 0;
            int sum = 0;
            for (int j = 0; j < r.length; j++) {
                for (int i = 0; i < l.length; i++) {
                    if (i == j + k) { met++; sum += Math.min(l[i], r[j]); }
                }
            }
            if (met > 0 && (best == null || sum > best[1])) best = new int[] {k, sum};
        }
        return best[what];
    }

    public int mesh(int zip, int other, int place) {
        int[] l = z(zip).teeth[0];
        int[] r = z(other).teeth[1];
        if (place != NONE) p(zip, place);
        int[][][] memo = new int[17][17][];
        int[] best = meshFrom(l, r, 0, 0, memo);
        return place == NONE ? best[16] : best[place];
    }

    /** The row of partners from a left place up, by right places from another up; its sum at 16. */
    static int[] meshFrom(int[] l, int[] r, int i, int j, int[][][] memo) {
        if (i == l.length) return new int[17];
        if (memo[i][j] != null) return memo[i][j];
        int[] best = null;
        for (int k = j; k <= r.length; k++) {
            boolean none = k == r.length;
            int hold = none ? 0 : Math.min(l[i], r[k]);
            if (!none && hold == 0) continue;
            int[] row = meshFrom(l, r, i + 1, none ? j : k + 1, memo).clone();
            row[i] = none ? NONE : k;
            row[16] += hold;
            if (best == null || row[16] > best[16]) best = row;
        }
        return memo[i][j] = best;
    }

    public int cut(int zip, int what) {
        Zip z = z(zip);
        w(what, 2);
        int[] best = {NONE, 0};
        for (int c = z.n() - 1; c >= 1; c--) {
            int a = 0;
            int b = 0;
            for (int p = 0; p < z.n(); p++) { if (p < c) a += z.hold(p); else b += z.hold(p); }
            if (best[0] == NONE || Math.min(a, b) >= best[1]) best = new int[] {c, Math.min(a, b)};
        }
        return best[what];
    }

    public int mates(int zip) {
        if (zip != NONE) z(zip);
        int[] best = matesFrom(new ArrayList<>());
        return zip == NONE ? best[4] : best[zip];
    }

    int[] matesFrom(List<Integer> row) {
        if (row.size() == now.zips.size()) {
            int[] done = new int[5];
            for (int i = 0; i < row.size(); i++) {
                done[i] = row.get(i);
                for (int p = 0; p < z(i).n(); p++) done[4] += Math.min(z(i).teeth[0][p], z(row.get(i)).teeth[1][p]);
            }
            return done;
        }
        int[] best = null;
        for (int j = 0; j < now.zips.size(); j++) {
            if (row.contains(j) || z(j).n() != z(row.size()).n()) continue;
            List<Integer> longer = new ArrayList<>(row);
            longer.add(j);
            int[] done = matesFrom(longer);
            if (done != null && (best == null || done[4] > best[4])) best = done;
        }
        return best;
    }

    // ---- to do ----

    public int toPinch(int zip, int days) {
        z(zip);
        r(days, 1, 60);
        int best = NONE;
        int most = z(after(now, days), zip).many();
        for (int p = 0; p < z(zip).n(); p++) {
            State s = now.copy();
            for (int[] tape : z(s, zip).teeth) if (tape[p] > 0 && tape[p] < 9) tape[p]++;
            int many = z(after(s, days), zip).many();
            if (many > most) { most = many; best = p; }
        }
        return best;
    }

    public int toSlide(int zip, int days, int what) {
        z(zip);
        w(what, 2);
        r(days, 1, 60);
        int[] best = {0, -1};
        for (int h = 0; h <= z(zip).n(); h++) {
            State s = now.copy();
            z(s, zip).slid(h);
            int many = z(after(s, days), zip).many();
            if (many > best[1]) best = new int[] {h, many};
        }
        return best[what];
    }

    public int toSet(int zip, int days) {
        z(zip);
        r(days, 1, 60);
        int best = NONE;
        int most = -1;
        for (int p = 0; p < z(zip).n(); p++) {
            State s = now.copy();
            boolean lacks = false;
            for (int[] tape : z(s, zip).teeth) if (tape[p] == 0) { tape[p] = 9; lacks = true; }
            if (!lacks) continue;
            z(s, zip).slid(z(zip).n());
            int many = z(after(s, days), zip).many();
            if (many > most) { most = many; best = p; }
        }
        return best;
    }

    // ---- seen ----

    public int note(int zip, int place, int days, boolean closed) {
        p(zip, place);
        if (notes.size() == 8 || days < 0 || days > 20) { status[2]++; return NONE; }
        notes.add(new Noted(zip, place, days, closed));
        return notes.size();
    }

    boolean so(List<Integer> strains) {
        State s = now.copy();
        for (int d = 0; d <= 20; d++) {
            for (Noted n : notes) if (n.days == d && z(s, n.zip).closed[n.place] != n.closed) return false;
            day(s, strains);
        }
        return true;
    }

    /** All that are forced, as {number, strains}. */
    List<Object[]> all() {
        List<Object[]> all = new ArrayList<>();
        for (int i = 0; i < strain.size(); i++) {
            for (int o = 0; o <= 9; o++) {
                List<Integer> other = new ArrayList<>(strain);
                other.set(i, o);
                if (!other.equals(strain) && so(other)) all.add(new Object[] {10 * i + o, other});
            }
        }
        return all;
    }

    public int forced(int what) {
        w(what, 3);
        if (what == 2) return so(strain) ? 1 : 0;
        List<Object[]> all = all();
        return what == 0 ? all.size() : all.isEmpty() ? NONE : (Integer) all.get(0)[0];
    }

    @SuppressWarnings("unchecked")
    public int look(int what) {
        w(what, 2);
        int[] best = {NONE, 0};
        for (int i = 0; i < now.zips.size(); i++) {
            TreeSet<Integer> seen = new TreeSet<>();
            for (Object[] f : all()) {
                State s = now.copy();
                for (int d = 0; d < 6; d++) day(s, (List<Integer>) f[1]);
                seen.add(z(s, i).many());
            }
            if (seen.size() > best[1]) best = new int[] {i, seen.size()};
        }
        return best[what];
    }

    public void forget() { notes = new ArrayList<>(); }

    // ---- by chance ----

    public int wind(int zip, int place, int days, int tenths) {
        p(zip, place);
        r(days, 1, 5);
        r(tenths, 0, 10);
        return blown(z(zip), place, now.day, days, tenths);
    }

    int blown(Zip z, int place, int day, int left, int tenths) {
        if (left == 0) return z.closed[place] ? 1 : 0;
        Zip windy = new Zip(z);
        Zip still = new Zip(z);
        day(windy, 9, day);
        day(still, 0, day);
        return tenths * blown(windy, place, day + 1, left - 1, tenths)
            + (10 - tenths) * blown(still, place, day + 1, left - 1, tenths);
    }

    public int game(int zip, int other, int what) {
        z(zip);
        z(other);
        w(what, 2);
        if (zip == other) throw new IllegalArgumentException();
        int[][][] gain = new int[2][2][2];
        for (int a = 0; a < 2; a++) {
            for (int b = 0; b < 2; b++) {
                State s = now.copy();
                if (a == 1) z(s, zip).slid(z(zip).n());
                if (b == 1) z(s, other).slid(z(other).n());
                State e = after(s, 6);
                gain[a][b][0] = 2 * z(e, zip).many() - z(e, other).many() - 3 * a;
                gain[a][b][1] = 2 * z(e, other).many() - z(e, zip).many() - 3 * b;
            }
        }
        int many = 0;
        int first = NONE;
        for (int a = 1; a >= 0; a--) {
            for (int b = 1; b >= 0; b--) {
                if (gain[1 - a][b][0] > gain[a][b][0] || gain[a][1 - b][1] > gain[a][b][1]) continue;
                many++;
                first = 10 * a + b;
            }
        }
        return what == 0 ? many : first;
    }

    public int years(int seed, int n, int what) {
        w(what, 3);
        r(n, 0, 60);
        int[] box = {seed};
        State s = now.copy();
        int bursts = 0;
        for (int i = 0; i < n; i++) {
            int kind = draw(box, 6);
            if (kind <= 2 && !s.zips.isEmpty()) {
                Zip z = s.zips.get(draw(box, s.zips.size()));
                if (kind == 0) {
                    z.slid(z.n());
                } else {
                    int p = draw(box, z.n());
                    int[] tape = z.teeth[draw(box, 2)];
                    if (kind == 1 && tape[p] >= 1 && tape[p] <= 8) tape[p]++;
                    if (kind == 2 && tape[p] >= 1) tape[p]--;
                    if (z.hold(p) == 0) z.closed[p] = false;
                }
            }
            bursts += sizes(day(s, strain));
        }
        int closed = 0;
        int grips = 0;
        for (Zip z : s.zips) { closed += z.many(); grips += z.grips(); }
        return new int[] {bursts, closed, grips}[what];
    }

    static int draw(int[] box, int n) {
        box[0] = box[0] * 1103515245 + 12345;
        int d = 0;
        for (int bit = 16; bit <= 30; bit++) if ((box[0] & 1 << bit) != 0) d += 1 << bit - 16;
        return d % n;
    }

    // ---- image ----

    public void image() {
        image = new Image();
        image.state = now.copy();
        image.acts = copies(acts);
        image.notes = new ArrayList<>(notes);
        image.status = status.clone();
    }

    static List<State> copies(List<State> of) {
        List<State> c = new ArrayList<>();
        for (State s : of) c.add(s.copy());
        return c;
    }

    public boolean restore() {
        if (image == null) return false;
        now = image.state.copy();
        acts = copies(image.acts);
        notes = new ArrayList<>(image.notes);
        status = image.status.clone();
        return true;
    }
}
