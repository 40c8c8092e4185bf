import java.util.ArrayDeque;
import java.util.ArrayList;
import java.util.Arrays;
import java.util.HashSet;
import java.util.List;
import java.util.NoSuchElementException;
import java.util.Set;
import java.util.TreeSet;

/** The document once more, told plainly with the Java library: what answers are due. */
final class Model {
    static final class C {
        List<Integer> sizes = new ArrayList<>();
        List<Integer> weights = new ArrayList<>();
        TreeSet<Integer> set = new TreeSet<>();

        C copy() {
            C c = new C();
            c.sizes.addAll(sizes);
            c.weights.addAll(weights);
            c.set.addAll(set);
            return c;
        }

        int words() {
            int n = 1;
            for (int s : sizes) n *= s;
            return n;
        }

        int[] digits(int w) {
            int[] d = new int[sizes.size()];
            for (int i = d.length - 1; i >= 0; i--) {
                d[i] = w % sizes.get(i);
                w /= sizes.get(i);
            }
            return d;
        }

        int number(List<Integer> d) {
            int w = 0;
            for (int i = 0; i < d.size(); i++) w = w * sizes.get(i) + d.get(i);
            return w;
        }

        int far(int w, int v) {
            int[] a = digits(w), b = digits(v);
            int f = 0;
            for (int i = 0; i < a.length; i++) if (a[i] != b[i]) f += weights.get(i);
            return f;
        }

        List<Integer> ball(int w, int r) {
            List<Integer> l = new ArrayList<>();
            for (int v = 0; v < words(); v++) if (far(w, v) <= r) l.add(v);
            return l;
        }

        Set<Integer> coveredBy(Iterable<Integer> some, int r) {
            Set<Integer> l = new HashSet<>();
            for (int x : some) l.addAll(ball(x, r));
            return l;
        }

        int times(int w, int r) {
            int n = 0;
            for (int x : set) if (far(x, w) <= r) n++;
            return n;
        }

        List<Integer> holes(int r) {
            Set<Integer> in = coveredBy(set, r);
            List<Integer> l = new ArrayList<>();
            for (int w = 0; w < words(); w++) if (!in.contains(w)) l.add(w);
            return l;
        }

        boolean idle(int x, int r) {
            TreeSet<Integer> rest = new TreeSet<>(set);
            rest.remove(x);
            return coveredBy(rest, r).size() == coveredBy(set, r).size();
        }

        List<Integer> idles(int r) {
            List<Integer> l = new ArrayList<>();
            for (int x : set) if (idle(x, r)) l.add(x);
            return l;
        }

        boolean sameSpace(C o) {
            return sizes.equals(o.sizes) && weights.equals(o.weights);
        }
    }

    record Undone(int slot, C was) { }

    C[] codes = new C[8];
    ArrayDeque<Undone> acts = new ArrayDeque<>();
    List<Integer> tape = new ArrayList<>();
    List<String> names = new ArrayList<>();
    int trouble = 0, where = -1, fault = 0;

    int no(int t) {
        trouble = t;
        where = -1;
        return -1;
    }

    int yes(int v) {
        trouble = 0;
        where = -1;
        return v;
    }

    boolean code(int c) {
        return c >= 0 && c <= 7 && codes[c] != null;
    }

    boolean slot(int c) {
        return c >= 0 && c <= 7;
    }

    boolean wd(int c, int w) {
        return code(c) && w >= 0 && w < codes[c].words();
    }

    boolean pl(int c, int i) {
        return code(c) && i >= 0 && i < codes[c].sizes.size();
    }

    boolean sl(int r) {
        return r >= 0 && r <= 24;
    }

    int act(int to, C made, int v) {
        acts.addLast(new Undone(to, codes[to]));
        if (acts.size() > 10) acts.removeFirst();
        codes[to] = made;
        return yes(v);
    }

    static int nth(List<Integer> l, int k) {
        return k < l.size() ? l.get(k) : -2;
    }

    int feed(int... n) {
        if (tape.size() + 20 > 600) return -1;
        for (int x : n) for (int s = 24; s >= 0; s -= 8) tape.add((x >>> s) & 255);
        return tape.size();
    }

    // ---- THE TEXT: tokens first, then a machine of states over them
    record Token(int at, String s) { }

    static final String END = "";
    static final String BAD = "?";

    static List<Token> tokens(List<Integer> bytes) {
        List<Token> l = new ArrayList<>();
        int i = 0;
        while (i < bytes.size()) {
            int b = bytes.get(i);
            if (b == ' ') {
                i++;
                continue;
            }
            String kinds = b >= 'a' && b <= 'z' ? "abcdefghijklmnopqrstuvwxyz" : b >= '0' && b <= '9' ? "0123456789" : "";
            if (kinds.isEmpty()) {
                l.add(new Token(i, ";,:".indexOf(b) >= 0 ? "" + (char) b : BAD));
                i++;
                continue;
            }
            StringBuilder s = new StringBuilder();
            int start = i;
            while (i < bytes.size() && kinds.indexOf(bytes.get(i)) >= 0) s.append((char) (int) bytes.get(i++));
            int most = kinds.length() == 10 ? 8 : 6;
            l.add(new Token(start, s.length() > most ? BAD : s.toString()));
        }
        l.add(new Token(bytes.size(), END));
        return l;
    }

    static boolean run(String s) {
        return s.matches("[0-9]+");
    }

    int text(int n) {
        if (n < 0 || n > tape.size()) return no(2);
        List<Integer> bytes = new ArrayList<>(tape.subList(0, n));
        tape.clear();
        List<C> made = new ArrayList<>();
        List<String> told = new ArrayList<>();
        String state = "line";
        C c = null;
        List<Integer> given = new ArrayList<>();
        for (Token t : tokens(bytes)) {
            String s = t.s();
            int f = 0;
            String next = state;
            switch (state) {
                case "line":
                    if (!s.equals("code")) f = 1;
                    else if (made.size() == 4) f = 4;
                    next = "name";
                    break;
                case "name":
                    if (!s.matches("[a-z]+") || Arrays.asList("code", "on", "weigh").contains(s)) f = 1;
                    else if (told.contains(s)) f = 3;
                    told.add(s);
                    c = new C();
                    made.add(c);
                    given = new ArrayList<>();
                    next = "on";
                    break;
                case "on":
                    if (!s.equals("on")) f = 1;
                    next = "size";
                    break;
                case "size":
                case "sizes":
                    if (run(s)) {
                        if (!s.matches("[234]")) f = 2;
                        else if (c.sizes.size() == 8 || c.words() * Integer.parseInt(s) > 256) f = 4;
                        else c.sizes.add(Integer.parseInt(s));
                        next = "sizes";
                    } else if (state.equals("sizes") && s.equals("weigh")) {
                        next = "weights";
                    } else if (state.equals("sizes") && s.equals(":")) {
                        for (int k = 0; k < c.sizes.size(); k++) c.weights.add(1);
                        next = "word";
                    } else {
                        f = 1;
                    }
                    break;
                case "weights":
                    if (run(s) && given.size() < c.sizes.size()) {
                        if (!s.matches("[123]")) f = 2;
                        else given.add(Integer.parseInt(s));
                    } else if (s.equals(":") && given.size() == c.sizes.size()) {
                        c.weights.addAll(given);
                        next = "word";
                    } else {
                        f = 1;
                    }
                    break;
                case "word":
                    if (!run(s)) {
                        f = 1;
                        break;
                    }
                    boolean fits = s.length() == c.sizes.size();
                    List<Integer> d = new ArrayList<>();
                    for (int k = 0; fits && k < s.length(); k++) {
                        d.add(s.charAt(k) - '0');
                        fits = d.get(k) < c.sizes.get(k);
                    }
                    if (!fits) f = 2;
                    else if (!c.set.add(c.number(d))) f = 3;
                    next = "behind";
                    break;
                case "behind":
                    if (s.equals(",")) next = "word";
                    else if (s.equals(";")) next = "line";
                    else if (s.equals(END)) next = "over";
                    else f = 1;
                    break;
                default:
                    throw new AssertionError();
            }
            if (f != 0) {
                no(4);
                fault = f;
                where = t.at();
                return -1;
            }
            state = next;
        }
        fault = 0;
        names = told;
        Arrays.fill(codes, null);
        for (int k = 0; k < made.size(); k++) codes[k] = made.get(k);
        acts.clear();
        return yes(made.size());
    }

    int fault() {
        return fault;
    }

    int where() {
        return where;
    }

    int about(int c, int what) {
        if (!code(c) || what < 0 || what > 5) return no(1);
        C x = codes[c];
        switch (what) {
            case 0: return yes(x.sizes.size());
            case 1: return yes(x.words());
            case 2: return yes(x.set.size());
            case 3: {
                int most = 0;
                for (int w = 0; w < x.words(); w++) most = Math.max(most, x.far(0, w));
                return yes(most);
            }
            case 4: {
                for (int r = 0; r <= 24; r++) if (x.holes(r).isEmpty()) return yes(r);
                return yes(-2);
            }
            default: {
                int least = -2;
                for (int a : x.set) for (int b : x.set) if (a != b && (least < 0 || x.far(a, b) < least)) least = x.far(a, b);
                return yes(least);
            }
        }
    }

    int place(int c, int i, int what) {
        if (!pl(c, i) || what < 0 || what > 1) return no(1);
        return yes(what == 0 ? codes[c].sizes.get(i) : codes[c].weights.get(i));
    }

    int word(int c, int k) {
        if (!code(c) || k < 0) return no(1);
        return yes(nth(new ArrayList<>(codes[c].set), k));
    }

    int has(int c, int w) {
        if (!wd(c, w)) return no(1);
        return yes(codes[c].set.contains(w) ? 1 : 0);
    }

    int digit(int c, int w, int i) {
        if (!wd(c, w) || !pl(c, i)) return no(1);
        return yes(codes[c].digits(w)[i]);
    }

    int far(int c, int w, int v) {
        if (!wd(c, w) || !wd(c, v)) return no(1);
        return yes(codes[c].far(w, v));
    }

    int ball(int c, int r) {
        if (!code(c)) return no(1);
        if (!sl(r)) return no(2);
        return yes(codes[c].ball(codes[c].words() - 1, r).size());
    }

    int ballAt(int c, int w, int r, int k) {
        if (!wd(c, w) || k < 0) return no(1);
        if (!sl(r)) return no(2);
        return yes(nth(codes[c].ball(w, r), k));
    }

    int covered(int c, int r) {
        if (!code(c)) return no(1);
        if (!sl(r)) return no(2);
        return yes(codes[c].coveredBy(codes[c].set, r).size());
    }

    int times(int c, int w, int r) {
        if (!wd(c, w)) return no(1);
        if (!sl(r)) return no(2);
        return yes(codes[c].times(w, r));
    }

    int table(int c, int r, int k) {
        if (!code(c)) return no(1);
        if (!sl(r) || k < 0) return no(2);
        int n = 0;
        for (int w = 0; w < codes[c].words(); w++) if (codes[c].times(w, r) == k) n++;
        return yes(n);
    }

    int hole(int c, int r, int k) {
        if (!code(c) || k < 0) return no(1);
        if (!sl(r)) return no(2);
        return yes(nth(codes[c].holes(r), k));
    }

    int idle(int c, int r, int k) {
        if (!code(c) || k < 0) return no(1);
        if (!sl(r)) return no(2);
        return yes(nth(codes[c].idles(r), k));
    }

    int excess(int c, int r) {
        if (!code(c)) return no(1);
        if (!sl(r)) return no(2);
        int n = 0;
        for (int w : codes[c].coveredBy(codes[c].set, r)) n += codes[c].times(w, r) - 1;
        return yes(n);
    }

    int bound(int c, int r) {
        if (!code(c)) return no(1);
        if (!sl(r)) return no(2);
        return yes((int) Math.ceil((double) codes[c].words() / codes[c].ball(0, r).size()));
    }

    int pairs(int c, int k) {
        if (!code(c)) return no(1);
        if (k < 0) return no(2);
        int n = 0;
        for (int a : codes[c].set) for (int b : codes[c].set) if (a != b && codes[c].far(a, b) == k) n++;
        return yes(n / 2);
    }

    int centre(int c, int what) {
        if (!code(c) || what < 0 || what > 1) return no(1);
        if (codes[c].set.isEmpty()) return no(5);
        int best = -1, least = 99;
        for (int w = 0; w < codes[c].words(); w++) {
            int most = 0;
            for (int x : codes[c].set) most = Math.max(most, codes[c].far(x, w));
            if (most < least) {
                least = most;
                best = w;
            }
        }
        return yes(what == 0 ? best : least);
    }

    int nearest(int c, int w) {
        if (!wd(c, w)) return no(1);
        if (codes[c].set.isEmpty()) return no(5);
        for (int r = 0; r <= 24; r++) for (int x : codes[c].set) if (codes[c].far(x, w) == r) return yes(x);
        throw new AssertionError();
    }

    int ring(int c, int w, int k) {
        if (!wd(c, w)) return no(1);
        if (k < 0) return no(2);
        int n = 0;
        for (int x : codes[c].set) if (codes[c].far(x, w) == k) n++;
        return yes(n);
    }

    int column(int c, int i, int digit) {
        if (!pl(c, i)) return no(1);
        if (digit < 0 || digit >= codes[c].sizes.get(i)) return no(2);
        int n = 0;
        for (int x : codes[c].set) if (codes[c].digits(x)[i] == digit) n++;
        return yes(n);
    }

    int worth(int c, int w, int r) {
        if (!wd(c, w)) return no(1);
        if (!sl(r)) return no(2);
        if (!codes[c].set.contains(w)) return no(5);
        TreeSet<Integer> rest = new TreeSet<>(codes[c].set);
        rest.remove(w);
        return yes(codes[c].coveredBy(codes[c].set, r).size() - codes[c].coveredBy(rest, r).size());
    }

    // ---- FEWEST, without recursion: a stack of where each level stands
    private int[] row;
    private int steps;

    private boolean seek(C x, int r, int n) {
        List<List<Integer>> balls = new ArrayList<>();
        for (int w = 0; w < x.words(); w++) balls.add(x.ball(w, r));
        int[] chosenBall = new int[n + 1];
        int[] at = new int[n + 1];
        int[] took = new int[n];
        int depth = 0;
        boolean enter = true;
        while (true) {
            if (enter) {
                boolean[] in = new boolean[x.words()];
                int open = x.words();
                for (int k = 0; k < depth; k++) for (int v : balls.get(took[k])) if (!in[v]) {
                    in[v] = true;
                    open--;
                }
                if (open == 0) {
                    row = Arrays.copyOf(took, depth);
                    return true;
                }
                boolean back = depth == n || (n - depth) * balls.get(0).size() < open;
                if (!back) {
                    int first = 0;
                    while (in[first]) first++;
                    chosenBall[depth] = first;
                    at[depth] = 0;
                } else {
                    depth--;
                    if (depth < 0) return false;
                }
            }
            List<Integer> from = balls.get(chosenBall[depth]);
            if (at[depth] == from.size()) {
                depth--;
                if (depth < 0) return false;
                enter = false;
                continue;
            }
            if (steps == 60000) {
                steps = 60001;
                return false;
            }
            steps++;
            took[depth] = from.get(at[depth]++);
            depth++;
            enter = true;
        }
    }

    int fewest(int c, int r, int what) {
        if (!code(c) || what < 0 || what > 9) return no(1);
        if (!sl(r)) return no(2);
        if (codes[c].words() > 81) return no(5);
        steps = 0;
        row = null;
        for (int n = 1; n <= 8 && row == null && steps <= 60000; n++) seek(codes[c], r, n);
        if (what == 1) return yes(Math.min(steps, 60000));
        if (row == null) return yes(-2);
        if (what == 0) return yes(row.length);
        return yes(what - 2 < row.length ? row[what - 2] : -2);
    }

    // ---- acts
    int set(int c, int w, boolean is) {
        if (!wd(c, w)) return no(1);
        C x = codes[c].copy();
        if (is ? !x.set.add(w) : !x.set.remove(w)) return no(5);
        return act(c, x, x.set.size());
    }

    int greedy(int c, int r) {
        if (!code(c)) return no(1);
        if (!sl(r)) return no(2);
        C x = codes[c].copy();
        int came = 0;
        while (!x.holes(r).isEmpty()) {
            List<Integer> holes = x.holes(r);
            int best = -1, most = 0;
            for (int w = 0; w < x.words(); w++) {
                int n = 0;
                for (int h : holes) if (x.far(w, h) <= r) n++;
                if (n > most) {
                    most = n;
                    best = w;
                }
            }
            x.set.add(best);
            came++;
        }
        return act(c, x, came);
    }

    int thin(int c, int r) {
        if (!code(c)) return no(1);
        if (!sl(r)) return no(2);
        C x = codes[c].copy();
        int went = 0;
        for (int w : codes[c].set.descendingSet()) {
            if (x.idle(w, r)) {
                x.set.remove(w);
                went++;
            }
        }
        return act(c, x, went);
    }

    int better(int c, int r) {
        if (!code(c)) return no(1);
        if (!sl(r)) return no(2);
        if (codes[c].words() > 81) return no(5);
        C x = codes[c].copy();
        List<boolean[]> in = new ArrayList<>();
        for (int w = 0; w < x.words(); w++) {
            boolean[] b = new boolean[x.words()];
            for (int v : x.ball(w, r)) b[v] = true;
            in.add(b);
        }
        int made = 0;
        while (made < 99) {
            int least = x.holes(r).size(), goes = -1, comes = -1;
            for (int a : x.set) {
                int[] t = new int[x.words()];
                for (int b : x.set) if (b != a) for (int v = 0; v < t.length; v++) if (in.get(b)[v]) t[v]++;
                for (int w = 0; w < x.words(); w++) {
                    if (x.set.contains(w)) continue;
                    int holes = 0;
                    for (int v = 0; v < t.length; v++) if (t[v] == 0 && !in.get(w)[v]) holes++;
                    if (holes < least) {
                        least = holes;
                        goes = a;
                        comes = w;
                    }
                }
            }
            if (goes < 0) break;
            x.set.remove(goes);
            x.set.add(comes);
            made++;
        }
        return act(c, x, made);
    }

    private boolean room(C x) {
        return x.sizes.size() <= 8 && x.words() <= 256;
    }

    private static List<Integer> list(int[] d) {
        List<Integer> l = new ArrayList<>();
        for (int x : d) l.add(x);
        return l;
    }

    int sum(int to, int one, int other) {
        if (!slot(to) || !code(one) || !code(other)) return no(1);
        C a = codes[one], b = codes[other], x = new C();
        x.sizes.addAll(a.sizes);
        x.sizes.addAll(b.sizes);
        x.weights.addAll(a.weights);
        x.weights.addAll(b.weights);
        if (!room(x)) return no(3);
        for (int v : a.set) for (int w : b.set) {
            List<Integer> d = list(a.digits(v));
            d.addAll(list(b.digits(w)));
            x.set.add(x.number(d));
        }
        return act(to, x, x.set.size());
    }

    int join(int to, int one, int other) {
        if (!slot(to) || !code(one) || !code(other)) return no(1);
        C a = codes[one], b = codes[other], x = new C();
        int last = a.sizes.size() - 1;
        if (!a.sizes.get(last).equals(b.sizes.get(0)) || !a.weights.get(last).equals(b.weights.get(0))) return no(5);
        x.sizes.addAll(a.sizes);
        x.sizes.addAll(b.sizes.subList(1, b.sizes.size()));
        x.weights.addAll(a.weights);
        x.weights.addAll(b.weights.subList(1, b.weights.size()));
        if (!room(x)) return no(3);
        for (int v : a.set) for (int w : b.set) {
            List<Integer> d = list(a.digits(v)), e = list(b.digits(w));
            if (!d.get(last).equals(e.get(0))) continue;
            d.addAll(e.subList(1, e.size()));
            x.set.add(x.number(d));
        }
        return act(to, x, x.set.size());
    }

    int longer(int to, int c, int size, int weight) {
        if (!slot(to) || !code(c)) return no(1);
        if (size < 2 || size > 4 || weight < 1 || weight > 3) return no(2);
        C x = codes[c].copy();
        x.set.clear();
        x.sizes.add(size);
        x.weights.add(weight);
        if (!room(x)) return no(3);
        for (int v : codes[c].set) for (int d = 0; d < size; d++) {
            List<Integer> l = list(codes[c].digits(v));
            l.add(d);
            x.set.add(x.number(l));
        }
        return act(to, x, x.set.size());
    }

    int shorter(int to, int c, int i, int digit) {
        if (!slot(to) || !pl(c, i)) return no(1);
        if (digit < 0 || digit >= codes[c].sizes.get(i)) return no(2);
        if (codes[c].sizes.size() == 1) return no(5);
        C x = codes[c].copy();
        x.set.clear();
        x.sizes.remove(i);
        x.weights.remove(i);
        for (int v : codes[c].set) {
            List<Integer> l = list(codes[c].digits(v));
            if (l.remove(i) == digit) x.set.add(x.number(l));
        }
        return act(to, x, x.set.size());
    }

    boolean swap(int to, int c, int i, int j) {
        if (!slot(to) || !pl(c, i) || !pl(c, j)) {
            no(1);
            return false;
        }
        C x = codes[c].copy();
        x.set.clear();
        java.util.Collections.swap(x.sizes, i, j);
        java.util.Collections.swap(x.weights, i, j);
        for (int v : codes[c].set) {
            List<Integer> l = list(codes[c].digits(v));
            java.util.Collections.swap(l, i, j);
            x.set.add(x.number(l));
        }
        act(to, x, 0);
        return true;
    }

    boolean shift(int to, int c, int i, int k) {
        if (!slot(to) || !pl(c, i)) {
            no(1);
            return false;
        }
        if (k < 0 || k > 3) {
            no(2);
            return false;
        }
        C x = codes[c].copy();
        x.set.clear();
        for (int v : codes[c].set) {
            List<Integer> l = list(codes[c].digits(v));
            l.set(i, (l.get(i) + k) % x.sizes.get(i));
            x.set.add(x.number(l));
        }
        act(to, x, 0);
        return true;
    }

    int mix(int to, int one, int other, int what) {
        if (!slot(to) || !code(one) || !code(other) || what < 0 || what > 2) return no(1);
        if (!codes[one].sameSpace(codes[other])) return no(5);
        C x = codes[one].copy();
        if (what == 0) x.set.addAll(codes[other].set);
        if (what == 1) x.set.retainAll(codes[other].set);
        if (what == 2) x.set.removeAll(codes[other].set);
        return act(to, x, x.set.size());
    }

    int holes(int to, int c, int r) {
        if (!slot(to) || !code(c)) return no(1);
        if (!sl(r)) return no(2);
        C x = codes[c].copy();
        x.set = new TreeSet<>(codes[c].holes(r));
        return act(to, x, x.set.size());
    }

    int undo() {
        if (acts.isEmpty()) return no(5);
        Undone u = acts.removeLast();
        codes[u.slot()] = u.was();
        return yes(acts.size());
    }

    int same(int one, int other) {
        if (!code(one) || !code(other)) return no(1);
        return yes(codes[one].sameSpace(codes[other]) && codes[one].set.equals(codes[other].set) ? 1 : 0);
    }

    int letter(int c, int k) {
        if (c < 0 || c >= names.size() || k < 0 || k >= names.get(c).length()) throw new NoSuchElementException();
        return names.get(c).charAt(k) - 'a';
    }

    int bytes() {
        return tape.size();
    }

    int trouble() {
        return trouble;
    }
}
