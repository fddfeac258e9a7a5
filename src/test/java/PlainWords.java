import java.util.ArrayList;
import java.util.Arrays;
import java.util.List;

/**
 * The document a second time, in the slowest and plainest way that its words allow: every moment keeps a whole
 * picture of all rows, nothing is remembered between calls, rows are changed place by place. TwinTest holds
 * SeenWords against it.
 */
public final class PlainWords {
    static final int UNKNOWN = -1, OUTSIDE = -2, STATE = -3, FULL = -4, GAP = -7, NONE = -9;
    static final int NULL = -11, CAST = -12, INDEX = -13, SIZE = -14;

    record Piece(int kind, int first, int n, int of, int moment) { }
    record Word(int code, int hand, int home, int moment) { }
    record Link(int kind, int f, int n, int g, int k, int note) { }
    record Hit(int version, int place, int links) { }

    static final class Picture {
        List<List<Piece>> rows = new ArrayList<>();
        int[] groups = new int[4];
        List<Integer> kinds = new ArrayList<>();
        List<Boolean> there = new ArrayList<>();
        int chain;

        Picture again() {
            Picture p = new Picture();
            for (List<Piece> row : rows) p.rows.add(new ArrayList<>(row));
            p.groups = groups.clone();
            p.kinds = new ArrayList<>(kinds);
            p.there = new ArrayList<>(there);
            p.chain = chain;
            return p;
        }
    }

    static final class Version { int writing, moment; List<Integer> places; }
    static final class Clash { int writing; List<Integer> first, second; boolean settled; }
    static final class Right { int writing, group, hand = -1, uses, from, to, on = NONE; }
    static final class Sheet { int lane; int[] cells; }

    private final List<Picture> moments = new ArrayList<>(List.of(new Picture()));
    private Picture next;
    private int hands;
    private final List<Integer> owners = new ArrayList<>();
    private final List<Word> words = new ArrayList<>();
    private final List<Version> versions = new ArrayList<>();
    private final List<Clash> clashes = new ArrayList<>();
    private final List<Link> links = new ArrayList<>();
    private final List<Right> rights = new ArrayList<>();
    private final Sheet[] sheets = new Sheet[4];
    private List<Hit> hits = new ArrayList<>();
    private final int[][] debts = new int[8][8];
    private int price = 10, share = 3, trace, fault;

    private int now() { return moments.size() - 1; }
    private Picture present() { return moments.get(now()); }
    private Picture change() { next = present().again(); return next; }
    private int acted(int answer) {
        if (next == null) change();
        next.chain = mix(present().chain, answer);
        moments.add(next);
        next = null;
        return answer;
    }
    private boolean noWriting(int w) { return w < 0 || w >= owners.size(); }
    private boolean noHand(int h) { return h < 0 || h >= hands; }
    private boolean noMoment(int m) { return m < 0 || m > now(); }
    private boolean noVersion(int v) { return v < 0 || v >= versions.size(); }
    private boolean noSheet(int k) { return k < 0 || k > 3; }
    private int failed(int answer) { fault = -10 - answer; return answer; }

    // ---- 1

    private List<Piece> row(int w, int m) {
        List<List<Piece>> rows = moments.get(m).rows;
        return w < rows.size() ? rows.get(w) : List.of();
    }

    private List<Integer> pieceShows(Piece p, int m, int around) {
        List<Integer> all = new ArrayList<>();
        if (p.kind() < 2) {
            for (int k = 0; k < p.n(); k++) all.add(p.first() + k);
            return all;
        }
        if (around == 4) return List.of(GAP);
        int asOf = p.kind() == 2 ? p.moment() : m;
        List<Integer> inner = rowShows(row(p.of(), asOf), asOf, around + 1);
        for (int k = p.first(); k < p.first() + p.n() && k < inner.size(); k++) all.add(inner.get(k));
        return all;
    }

    private List<Integer> rowShows(List<Piece> row, int m, int around) {
        List<Integer> all = new ArrayList<>();
        for (Piece p : row) {
            for (int x : pieceShows(p, m, around)) if (all.size() < 300) all.add(x);
            if (all.size() >= 300) break;
        }
        return all;
    }

    private List<Integer> shows(int w, int m) { return rowShows(row(w, m), m, 0); }

    /** One place that is shown of a piece (the last one stands for what is beyond, too), or (offset -1) a piece that shows nothing. */
    record Atom(Piece piece, int serial, int offset, boolean last) { }

    private List<Atom> atoms(List<Piece> row) {
        List<Atom> all = new ArrayList<>();
        int serial = 0, room = 300;
        for (Piece p : row) {
            int size = Math.min(room, pieceShows(p, now(), 0).size());
            room -= size;
            if (size == 0) all.add(new Atom(p, serial, -1, true));
            for (int k = 0; k < size; k++) all.add(new Atom(p, serial, k, k == size - 1));
            serial++;
        }
        return all;
    }

    private static List<Piece> pieces(List<Atom> atoms) {
        List<Piece> row = new ArrayList<>();
        for (int i = 0; i < atoms.size(); ) {
            Atom a = atoms.get(i);
            if (a.offset() < 0) { row.add(a.piece()); i++; continue; }
            int j = i;
            while (j + 1 < atoms.size() && atoms.get(j + 1).serial() == a.serial()
                    && atoms.get(j + 1).offset() == atoms.get(j).offset() + 1) j++;
            int n = atoms.get(j).last() ? a.piece().n() - a.offset() : j - i + 1;
            row.add(new Piece(a.piece().kind(), a.piece().first() + a.offset(), n, a.piece().of(), a.piece().moment()));
            i = j + 1;
        }
        return row;
    }

    /** Index of the atom that is the place; all of them, if there is none. */
    private static int index(List<Atom> atoms, int place) {
        int count = 0;
        for (int i = 0; i < atoms.size(); i++) {
            if (atoms.get(i).offset() >= 0) {
                if (count == place) return i;
                count++;
            }
        }
        return atoms.size();
    }

    private List<Piece> rowWith(int w, int at, Piece p) {
        List<Atom> atoms = atoms(row(w, now()));
        atoms.add(index(atoms, at), new Atom(p, 1000, -1, true));
        return pieces(atoms);
    }

    private List<Piece> rowWithout(int w, int from, int n) {
        List<Atom> atoms = atoms(row(w, now()));
        int i = index(atoms, from), j = index(atoms, from + n - 1);
        atoms.subList(i, j + 1).clear();
        return pieces(atoms);
    }

    private boolean changed(int w, List<Piece> row) {
        if (row.size() > 24) return false;
        change().rows.set(w, row);
        return true;
    }

    private int come(int w, int at, Piece p) {
        if (!changed(w, rowWith(w, at, p))) return FULL;
        return actedShowing(w);
    }

    private int actedShowing(int w) {
        moments.add(next);
        int answer = shows(w, now()).size();
        moments.remove(now());
        return acted(answer);
    }

    public int hand() {
        if (hands == 8) return FULL;
        return acted(hands++);
    }
    public int group(int g, int set) {
        if (g < 0 || g > 3) return UNKNOWN;
        if (set < 0 || set >= 1 << hands) return OUTSIDE;
        int was = present().groups[g];
        change().groups[g] = set;
        return acted(was);
    }
    public int writing(int hand) {
        if (noHand(hand)) return UNKNOWN;
        if (owners.size() == 12) return FULL;
        owners.add(hand);
        change().rows.add(new ArrayList<>());
        return acted(owners.size() - 1);
    }
    private int cells(int sheet, int lane, int i, int n) {
        if (lane < 0 || lane > 2) return OUTSIDE;
        Sheet s = sheets[sheet];
        if (s != null && s.lane != lane) return failed(CAST);
        if (s == null) return failed(NULL);
        if (n < 0) return failed(SIZE);
        if (i < 0 || i > s.cells.length || (long) i + n > s.cells.length) return failed(INDEX);
        return 0;
    }
    public int put(int w, int at, int sheet, int lane, int i, int n) {
        fault = 0;
        if (noWriting(w) || noSheet(sheet) || at < 0 || at > shows(w, now()).size()) return UNKNOWN;
        int bad = cells(sheet, lane, i, n);
        if (bad != 0) return bad;
        if (n == 0) return OUTSIDE;
        for (int k = 0; k < n; k++) if (sheets[sheet].cells[i + k] < 1 || sheets[sheet].cells[i + k] > 99) return OUTSIDE;
        int first = words.size();
        if (first + n > 500) return FULL;
        if (!changed(w, rowWith(w, at, new Piece(0, first, n, NONE, NONE)))) return FULL;
        for (int k = 0; k < n; k++) words.add(new Word(sheets[sheet].cells[i + k], owners.get(w), w, now() + 1));
        return acted(first);
    }
    public int seen(int w, int at, int f, int n) {
        if (noWriting(w) || at < 0 || at > shows(w, now()).size()) return UNKNOWN;
        if (n < 1) return OUTSIDE;
        if (noWords(f, n)) return UNKNOWN;
        for (int x = f; x < f + n; x++) if (may(owners.get(w), words.get(x).home(), 1, now()) != 1) return STATE;
        return come(w, at, new Piece(1, f, n, NONE, NONE));
    }
    private boolean noWords(int f, int n) { return f < 0 || f >= words.size() || (long) f + n > words.size(); }
    public int span(int w, int at, int of, int moment, int a, int n) {
        if (noWriting(w) || noWriting(of) || at < 0 || at > shows(w, now()).size() || noMoment(moment)) return UNKNOWN;
        if (a < 0 || a > 499 || n < 1 || n > 500) return OUTSIDE;
        if (may(owners.get(w), of, 1, now()) != 1) return STATE;
        return come(w, at, new Piece(2, a, n, of, moment));
    }
    public int live(int w, int at, int of, int a, int n) {
        if (noWriting(w) || noWriting(of) || at < 0 || at > shows(w, now()).size()) return UNKNOWN;
        if (a < 0 || a > 499 || n < 1 || n > 500) return OUTSIDE;
        if (may(owners.get(w), of, 1, now()) != 1) return STATE;
        int far = far(of, w, true);
        if (far != NONE) return -100 - far;
        return come(w, at, new Piece(3, a, n, of, NONE));
    }
    /** Distances by letting them settle, edge by edge. */
    private int far(int from, int to, boolean lives) {
        int[] d = new int[owners.size()];
        Arrays.fill(d, 1000);
        d[from] = 0;
        for (int round = 0; round < owners.size(); round++)
            for (int w = 0; w < owners.size(); w++)
                for (Piece p : row(w, now())) {
                    if (p.kind() == 3 || (!lives && p.kind() == 2)) d[p.of()] = Math.min(d[p.of()], d[w] + 1);
                    if (!lives && p.kind() == 1)
                        for (int x = p.first(); x < p.first() + p.n(); x++) {
                            int home = words.get(x).home();
                            d[home] = Math.min(d[home], d[w] + 1);
                        }
                }
        return d[to] < 1000 ? d[to] : NONE;
    }
    public int cut(int w, int from, int n) {
        if (noWriting(w)) return UNKNOWN;
        int size = shows(w, now()).size();
        if (from < 0 || from >= size) return UNKNOWN;
        if (n < 1 || n > size - from) return OUTSIDE;
        if (!changed(w, rowWithout(w, from, n))) return FULL;
        return actedShowing(w);
    }
    public int move(int w, int from, int n, int to) {
        if (noWriting(w)) return UNKNOWN;
        int size = shows(w, now()).size();
        if (from < 0 || from >= size || to < 0 || to > size) return UNKNOWN;
        if (n < 1 || n > size - from) return OUTSIDE;
        if (to > from && to < from + n) return STATE;
        List<Atom> atoms = atoms(row(w, now()));
        int i = index(atoms, from), j = index(atoms, from + n - 1);
        List<Piece> out = pieces(new ArrayList<>(atoms.subList(i, j + 1)));
        atoms.subList(i, j + 1).clear();
        atoms = atoms(pieces(atoms));
        int k = index(atoms, to >= from + n ? to - n : to);
        for (int p = out.size() - 1; p >= 0; p--) atoms.add(k, new Atom(out.get(p), 1000 + p, -1, true));
        List<Piece> row = pieces(atoms);
        if (!changed(w, row)) return FULL;
        return acted(row.size());
    }
    public int again(int w, int moment) {
        if (noWriting(w) || noMoment(moment)) return UNKNOWN;
        List<Piece> row = new ArrayList<>(row(w, moment));
        change().rows.set(w, row);
        return acted(row.size());
    }
    public int length(int w, int moment) {
        if (noWriting(w) || noMoment(moment)) return UNKNOWN;
        return shows(w, moment).size();
    }
    public int shown(int w, int moment, int place) {
        if (noWriting(w) || noMoment(moment)) return UNKNOWN;
        List<Integer> all = shows(w, moment);
        return place < 0 || place >= all.size() ? UNKNOWN : all.get(place);
    }
    public int pieces(int w) { return noWriting(w) ? UNKNOWN : row(w, now()).size(); }
    public int piece(int w, int p, int what) {
        if (noWriting(w) || p < 0 || p >= row(w, now()).size()) return UNKNOWN;
        if (what < 0 || what > 4) return OUTSIDE;
        Piece x = row(w, now()).get(p);
        return new int[] {x.kind(), x.first(), x.n(), x.of(), x.moment()}[what];
    }
    public int word(int x, int what) {
        if (noWords(x, 1)) return UNKNOWN;
        if (what < 0 || what > 4) return OUTSIDE;
        Word word = words.get(x);
        int nth = 0;
        for (int y = 0; y < x; y++) if (words.get(y).hand() == word.hand()) nth++;
        return new int[] {word.code(), word.hand(), word.home(), word.moment(), nth}[what];
    }

    // ---- 2

    public int version(int w) {
        if (noWriting(w)) return UNKNOWN;
        if (versions.size() == 16) return FULL;
        Version v = new Version();
        v.writing = w;
        v.moment = now() + 1;
        change().kinds.add(0);
        versions.add(v);
        acted(versions.size() - 1);
        v.places = shows(w, v.moment);
        return versions.size() - 1;
    }
    private int kinded(int v, int from) {
        if (noVersion(v)) return UNKNOWN;
        if (present().kinds.get(v) != from) return STATE;
        change().kinds.set(v, from + 1);
        return acted(versions.get(v).places.size());
    }
    public int give(int v) { return kinded(v, 0); }
    public int back(int v) { return kinded(v, 1); }
    public int about(int v, int what) {
        if (noVersion(v)) return UNKNOWN;
        if (what < 0 || what > 4) return OUTSIDE;
        Version x = versions.get(v);
        int gaps = (int) x.places.stream().filter(p -> p == GAP).count();
        return new int[] {present().kinds.get(v), x.writing, x.moment, x.places.size(), gaps}[what];
    }
    public int at(int v, int place) {
        if (noVersion(v) || place < 0 || place >= versions.get(v).places.size()) return UNKNOWN;
        return versions.get(v).places.get(place);
    }
    private static int[][] sharedBehind(List<Integer> a, List<Integer> b) {
        int[][] t = new int[a.size() + 1][b.size() + 1];
        for (int i = a.size() - 1; i >= 0; i--)
            for (int j = b.size() - 1; j >= 0; j--) {
                t[i][j] = Math.max(t[i + 1][j], t[i][j + 1]);
                if (a.get(i) != GAP && a.get(i).equals(b.get(j))) t[i][j] = Math.max(t[i][j], 1 + t[i + 1][j + 1]);
            }
        return t;
    }
    public int compare(int v, int u, int what) {
        if (noVersion(v) || noVersion(u)) return UNKNOWN;
        if (what < 0 || what > 3) return OUTSIDE;
        List<Integer> a = versions.get(v).places, b = versions.get(u).places;
        int shared = sharedBehind(a, b)[0][0];
        List<Integer> left = new ArrayList<>(b);
        int common = 0;
        for (Integer x : a) if (x != GAP && left.remove(x)) common++;
        return new int[] {shared, a.size() - shared, b.size() - shared, common - shared}[what];
    }
    private static List<Integer> full(List<Integer> places) { return places.stream().filter(x -> x != GAP).toList(); }
    /** What is put ahead of each place; at the end of the list the places that are cut. */
    private static List<List<Integer>> way(List<Integer> c, List<Integer> v) {
        int[][] t = sharedBehind(c, v);
        List<List<Integer>> put = new ArrayList<>();
        for (int i = 0; i <= c.size(); i++) put.add(new ArrayList<>());
        List<Integer> cut = new ArrayList<>();
        int i = 0, j = 0;
        while (i < c.size() || j < v.size()) {
            if (i == c.size()) put.get(i).add(v.get(j++));
            else if (j == v.size()) cut.add(i++);
            else if (c.get(i).equals(v.get(j))) { i++; j++; }
            else if (t[i + 1][j] >= t[i][j + 1]) cut.add(i++);
            else put.get(i).add(v.get(j++));
        }
        put.add(cut);
        return put;
    }
    private static boolean less(List<Integer> a, List<Integer> b) {
        for (int k = 0; k < a.size() && k < b.size(); k++)
            if (!a.get(k).equals(b.get(k))) return a.get(k) < b.get(k);
        return a.size() < b.size();
    }
    public int join(int v, int u, int c) {
        if (noVersion(v) || noVersion(u) || noVersion(c)) return UNKNOWN;
        if (owners.size() == 12) return FULL;
        List<Integer> base = full(versions.get(c).places);
        List<List<Integer>> a = way(base, full(versions.get(v).places)), b = way(base, full(versions.get(u).places));
        List<Integer> cutA = a.get(base.size() + 1), cutB = b.get(base.size() + 1);
        List<Integer> all = new ArrayList<>();
        List<Clash> made = new ArrayList<>();
        for (int i = 0; i <= base.size(); i++) {
            List<Integer> p = a.get(i), q = b.get(i);
            if (q.isEmpty() || p.equals(q)) all.addAll(p);
            else if (p.isEmpty()) all.addAll(q);
            else {
                Clash clash = new Clash();
                clash.writing = owners.size();
                clash.first = less(p, q) ? p : q;
                clash.second = less(p, q) ? q : p;
                all.addAll(clash.first);
                all.addAll(clash.second);
                made.add(clash);
            }
            if (i < base.size() && !cutA.contains(i) && !cutB.contains(i)) all.add(base.get(i));
        }
        List<Piece> row = new ArrayList<>();
        for (int x : all) {
            Piece end = row.isEmpty() ? null : row.get(row.size() - 1);
            if (end != null && end.first() + end.n() == x)
                row.set(row.size() - 1, new Piece(1, end.first(), end.n() + 1, NONE, NONE));
            else row.add(new Piece(1, x, 1, NONE, NONE));
        }
        if (row.size() > 24 || clashes.size() + made.size() > 12) return FULL;
        clashes.addAll(made);
        owners.add(owners.get(versions.get(v).writing));
        change().rows.add(row);
        return acted(owners.size() - 1);
    }
    public int clash(int c, int what) {
        if (c < 0 || c >= clashes.size()) return UNKNOWN;
        if (what < 0 || what > 3) return OUTSIDE;
        Clash x = clashes.get(c);
        return new int[] {x.writing, x.first.size(), x.second.size(), x.settled ? 1 : 0}[what];
    }
    public int settle(int c, int which) {
        if (c < 0 || c >= clashes.size()) return UNKNOWN;
        if (which < 0 || which > 2) return OUTSIDE;
        Clash x = clashes.get(c);
        List<Integer> both = new ArrayList<>(x.first);
        both.addAll(x.second);
        int at = java.util.Collections.indexOfSubList(shows(x.writing, now()), both);
        if (x.settled || at < 0) return STATE;
        int one = x.first.size(), two = x.second.size();
        int from = which == 0 ? at + one : at, n = which == 0 ? two : which == 1 ? one : one + two;
        if (!changed(x.writing, rowWithout(x.writing, from, n))) return FULL;
        x.settled = true;
        return acted(n);
    }

    // ---- 3

    private static boolean is(int kind, int other) {
        return other == 0 || kind == other || (kind == 2 && other == 1) || (kind == 4 && other == 3);
    }
    private List<Integer> codes(int f, int n) { return words.subList(f, f + n).stream().map(Word::code).toList(); }
    public int link(int kind, int f, int n, int g, int k) {
        fault = 0;
        if (kind < 0 || kind > 4 || n < 1 || (kind != 2 && k < 1)) return OUTSIDE;
        if (noWords(f, n)) return UNKNOWN;
        Link made;
        if (kind == 2) {
            if (g < 0 || g >= links.size()) return UNKNOWN;
            Link note = links.get(g);
            if (!is(note.kind(), 1)) return failed(CAST);
            made = new Link(kind, f, n, note.f(), note.n(), g);
        } else {
            if (noWords(g, k)) return UNKNOWN;
            if (kind == 4 && codes(f, n).equals(codes(g, k))) return STATE;
            made = new Link(kind, f, n, g, k, NONE);
        }
        if (links.size() == 24) return FULL;
        links.add(made);
        return acted(links.size() - 1);
    }
    private boolean noLink(int l) { return l < 0 || l >= links.size(); }
    public int ofLink(int l, int what) {
        if (noLink(l)) return UNKNOWN;
        if (what < 0 || what > 5) return OUTSIDE;
        Link x = links.get(l);
        return new int[] {x.kind(), x.f(), x.n(), x.g(), x.k(), x.note()}[what];
    }
    private List<int[]> parts(int l, int end, int v) {
        Link x = links.get(l);
        int f = end == 0 ? x.f() : x.g(), n = end == 0 ? x.n() : x.k();
        List<int[]> all = new ArrayList<>();
        int place = 0;
        for (int y : versions.get(v).places) {
            if (y >= f && y < f + n) {
                int[] run = all.isEmpty() ? null : all.get(all.size() - 1);
                if (run != null && run[0] + run[2] == place && run[1] + run[2] == y) run[2]++;
                else all.add(new int[] {place, y, 1});
            }
            place++;
        }
        return all;
    }
    public int ends(int l, int end, int v) {
        if (noLink(l) || noVersion(v)) return UNKNOWN;
        if (end < 0 || end > 1) return OUTSIDE;
        return parts(l, end, v).size();
    }
    public int part(int l, int end, int v, int i, int what) {
        if (noLink(l) || noVersion(v) || i < 0) return UNKNOWN;
        if (end < 0 || end > 1 || what < 0 || what > 2) return OUTSIDE;
        List<int[]> all = parts(l, end, v);
        return i < all.size() ? all.get(i)[what] : UNKNOWN;
    }

    // ---- 4

    private static final String TEXT = "[0-3]:(?:r|q|l|rq|qr|rl|lr|ql|lq|rql|rlq|qrl|qlr|lrq|lqr)@[0-9]{1,4}-[0-9]{1,4}";
    private static boolean begins(String text) {
        java.util.regex.Matcher m = java.util.regex.Pattern.compile(TEXT).matcher(text);
        return m.matches() || m.hitEnd();
    }
    public int right(int w, int sheet, int lane, int i, int n) {
        fault = 0;
        if (noWriting(w) || noSheet(sheet)) return UNKNOWN;
        int bad = cells(sheet, lane, i, n);
        if (bad != 0) return bad;
        StringBuilder s = new StringBuilder();
        for (int k = 0; k < n; k++) {
            int code = sheets[sheet].cells[i + k];
            s.append(code > 0 && code < 128 ? (char) code : '#');
        }
        String text = s.toString();
        if (!text.matches(TEXT)) {
            int good = 0;
            while (good < n && begins(text.substring(0, good + 1))) good++;
            return -100 - good;
        }
        if (rights.size() == 20) return FULL;
        Right r = new Right();
        r.writing = w;
        r.group = text.charAt(0) - '0';
        int sign = text.indexOf('@'), line = text.indexOf('-');
        String uses = text.substring(2, sign);
        r.uses = (uses.contains("r") ? 1 : 0) + (uses.contains("q") ? 2 : 0) + (uses.contains("l") ? 4 : 0);
        r.from = Integer.parseInt(text.substring(sign + 1, line));
        r.to = Integer.parseInt(text.substring(line + 1));
        rights.add(r);
        change().there.add(true);
        return acted(rights.size() - 1);
    }
    private boolean allows(int r, int hand, int use, int m) {
        Right x = rights.get(r);
        List<Boolean> there = moments.get(m).there;
        if (r >= there.size() || !there.get(r) || (x.on != NONE && !there.get(x.on))) return false;
        if (m < x.from || m > x.to || (x.uses >> use & 1) == 0) return false;
        return x.on != NONE ? x.hand == hand : (moments.get(m).groups[x.group] >> hand & 1) == 1;
    }
    public int lend(int r, int from, int to) {
        if (r < 0 || r >= rights.size() || noHand(from) || noHand(to)) return UNKNOWN;
        if (from == to) return OUTSIDE;
        if (!allows(r, from, 2, now())) return STATE;
        if (rights.size() == 20) return FULL;
        Right x = new Right(), on = rights.get(r);
        x.writing = on.writing;
        x.hand = to;
        x.uses = on.uses & 3;
        x.from = on.from;
        x.to = on.to;
        x.on = r;
        rights.add(x);
        change().there.add(true);
        return acted(rights.size() - 1);
    }
    public int take(int r) {
        if (r < 0 || r >= rights.size()) return UNKNOWN;
        if (!present().there.get(r)) return STATE;
        int ended = 0;
        change();
        for (int k = 0; k < rights.size(); k++)
            if ((k == r || rights.get(k).on == r) && next.there.get(k)) { next.there.set(k, false); ended++; }
        return acted(ended);
    }
    public int ofRight(int r, int what) {
        if (r < 0 || r >= rights.size()) return UNKNOWN;
        if (what < 0 || what > 6) return OUTSIDE;
        Right x = rights.get(r);
        return new int[] {x.writing, x.on != NONE ? 8 + x.hand : x.group, x.uses, x.from, x.to, x.on,
            present().there.get(r) ? 1 : 0}[what];
    }
    public int may(int hand, int w, int use, int moment) {
        int why = why(hand, w, use, moment);
        return why == NONE ? 0 : why < 0 ? why : 1;
    }
    public int why(int hand, int w, int use, int moment) {
        if (noHand(hand) || noWriting(w) || noMoment(moment)) return UNKNOWN;
        if (use < 0 || use > 2) return OUTSIDE;
        if (owners.get(w) == hand) return 99;
        for (int r = 0; r < rights.size(); r++)
            if (rights.get(r).writing == w && allows(r, hand, use, moment)) return r;
        return NONE;
    }
    private boolean reads(int hand, int v, int place, int m) {
        Version x = versions.get(v);
        int y = x.places.get(place);
        if (y == GAP) return false;
        boolean open = owners.get(x.writing) == hand
            || (moments.get(m).kinds.get(v) == 1 && may(hand, x.writing, 0, m) == 1);
        return open && may(hand, words.get(y).home(), 0, m) == 1;
    }
    public int view(int hand, int v, int place, int moment) {
        if (noHand(hand) || noVersion(v) || at(v, place) == UNKNOWN || noMoment(moment)) return UNKNOWN;
        if (moment < versions.get(v).moment) return STATE;
        return reads(hand, v, place, moment) ? at(v, place) : GAP;
    }
    public int rule(int newPrice, int newShare) {
        if (newPrice < 0 || newPrice > 99 || newShare < 0 || newShare > 10) return OUTSIDE;
        int was = 100 * price + share;
        price = newPrice;
        share = newShare;
        return acted(was);
    }
    public int read(int hand, int v) {
        if (noHand(hand) || noVersion(v)) return UNKNOWN;
        int read = 0, owed = 0;
        for (int place = 0; place < versions.get(v).places.size(); place++) {
            if (!reads(hand, v, place, now())) continue;
            read++;
            int writer = words.get(at(v, place)).hand(), shower = owners.get(versions.get(v).writing);
            if (writer == hand) continue;
            int part = price * share / 10;
            owed += price;
            debts[hand][shower == writer || shower == hand ? writer : shower] += part;
            debts[hand][writer] += price - part;
        }
        return read == 0 ? STATE : acted(owed);
    }
    public int owes(int hand, int to) { return noHand(hand) || noHand(to) ? UNKNOWN : debts[hand][to]; }
    public int pay(int hand, int to, int amount) {
        if (noHand(hand) || noHand(to)) return UNKNOWN;
        if (amount < 1) return OUTSIDE;
        if (amount > debts[hand][to]) return STATE;
        debts[hand][to] -= amount;
        return acted(debts[hand][to]);
    }

    // ---- 5

    /** Each place's chain, laid out beside the places in the same way as these. */
    private List<List<Integer>> chains(int w, int m, int around) {
        List<List<Integer>> all = new ArrayList<>();
        for (Piece p : row(w, m)) {
            if (p.kind() < 2)
                for (int x = p.first(); x < p.first() + p.n(); x++)
                    all.add(words.get(x).home() == w ? List.of(w) : List.of(w, words.get(x).home()));
            else if (around == 4) all.add(List.of());
            else {
                List<List<Integer>> inner = chains(p.of(), p.kind() == 2 ? p.moment() : m, around + 1);
                for (int k = p.first(); k < p.first() + p.n() && k < inner.size(); k++) {
                    List<Integer> chain = new ArrayList<>();
                    if (!inner.get(k).isEmpty()) { chain.add(w); chain.addAll(inner.get(k)); }
                    all.add(chain);
                }
            }
        }
        return all.size() > 300 ? all.subList(0, 300) : all;
    }
    public int steps(int v, int place) {
        if (at(v, place) == UNKNOWN) return UNKNOWN;
        if (at(v, place) == GAP) return STATE;
        return chains(versions.get(v).writing, versions.get(v).moment, 0).get(place).size();
    }
    public int chain(int v, int place, int i) {
        if (at(v, place) == UNKNOWN) return UNKNOWN;
        if (at(v, place) == GAP) return STATE;
        List<Integer> chain = chains(versions.get(v).writing, versions.get(v).moment, 0).get(place);
        return i < 0 || i >= chain.size() ? UNKNOWN : chain.get(i);
    }
    public int quotes(int w, int u) { return noWriting(w) || noWriting(u) ? UNKNOWN : far(w, u, false); }
    public int seek(int hand, int sheet, int lane, int i, int n) {
        fault = 0;
        if (noHand(hand) || noSheet(sheet)) return UNKNOWN;
        int bad = cells(sheet, lane, i, n);
        if (bad != 0) return bad;
        if (n == 0) return OUTSIDE;
        List<Hit> all = new ArrayList<>();
        for (int v = 0; v < versions.size(); v++)
            for (int place = 0; place + n <= versions.get(v).places.size(); place++) {
                boolean stands = true;
                for (int k = 0; k < n && stands; k++)
                    stands = reads(hand, v, place + k, now())
                        && words.get(at(v, place + k)).code() == sheets[sheet].cells[i + k];
                if (!stands) continue;
                int x = at(v, place), count = 0;
                for (Link l : links)
                    if ((x >= l.f() && x < l.f() + l.n()) || (x >= l.g() && x < l.g() + l.k())) count++;
                all.add(new Hit(v, place, count));
            }
        all.sort((a, b) -> a.links() != b.links() ? b.links() - a.links()
            : a.version() != b.version() ? a.version() - b.version() : a.place() - b.place());
        hits = all.subList(0, Math.min(200, all.size()));
        return all.size();
    }
    public int hit(int i, int what) {
        if (i < 0 || i >= hits.size()) return UNKNOWN;
        if (what < 0 || what > 2) return OUTSIDE;
        Hit h = hits.get(i);
        return new int[] {h.version(), h.place(), h.links()}[what];
    }
    static int mix(int a, int b) {
        int x = (int) (a * -1640531535L + b);
        x ^= x >>> 15;
        x *= -2048144789;
        x ^= x >>> 13;
        return x;
    }
    private List<int[]> sealRows(int m) {
        List<int[]> rows = new ArrayList<>();
        int[] row = new int[512];
        for (int x = 0; x < words.size(); x++) {
            Word w = words.get(x);
            if (w.moment() <= m) row[x] = mix(mix(w.hand(), w.code()), w.moment());
        }
        rows.add(row);
        while (row.length > 1) {
            int[] up = new int[row.length / 2];
            for (int k = 0; k < up.length; k++) up[k] = mix(row[2 * k], row[2 * k + 1]);
            rows.add(up);
            row = up;
        }
        return rows;
    }
    public int seal(int moment) { return noMoment(moment) ? 0 : sealRows(moment).get(9)[0]; }
    public int side(int x, int moment, int k) {
        if (noWords(x, 1) || noMoment(moment) || k < 0 || k > 8) return 0;
        return besides(x, moment, k);
    }
    private int besides(int x, int moment, int k) {
        int at = x >> k;
        return sealRows(moment).get(k)[at % 2 == 0 ? at + 1 : at - 1];
    }
    public int prove(int x, int hand, int code, int put, int moment, int sheet, int lane, int i) {
        fault = 0;
        if (x < 0 || x > 499 || noMoment(moment) || noSheet(sheet)) return UNKNOWN;
        int bad = cells(sheet, lane, i, 9);
        if (bad != 0) return bad;
        for (int k = 0; k < 9; k++) if (sheets[sheet].cells[i + k] != besides(x, moment, k)) return -100 - k;
        int sum = mix(mix(hand, code), put);
        for (int k = 0; k < 9; k++)
            sum = (x >> k) % 2 == 0 ? mix(sum, besides(x, moment, k)) : mix(besides(x, moment, k), sum);
        return sum == seal(moment) ? 1 : 0;
    }
    public int stamp(int moment) { return noMoment(moment) ? 0 : moments.get(moment).chain; }

    // ---- 6

    public int sheet(int k, int lane, int n) {
        fault = 0;
        if (noSheet(k)) return UNKNOWN;
        if (lane < 0 || lane > 2 || n > 60) return OUTSIDE;
        if (n < 0) return failed(SIZE);
        sheets[k] = new Sheet();
        sheets[k].lane = lane;
        sheets[k].cells = new int[n];
        return 1;
    }
    public int lose(int k) {
        if (noSheet(k)) return UNKNOWN;
        int had = sheets[k] == null ? 0 : 1;
        sheets[k] = null;
        return had;
    }
    public int set(int k, int i, int v) {
        fault = 0;
        if (noSheet(k)) return UNKNOWN;
        if (sheets[k] == null) return failed(NULL);
        if (i < 0 || i >= sheets[k].cells.length) return failed(INDEX);
        sheets[k].cells[i] = sheets[k].lane == 0 ? (byte) v : sheets[k].lane == 1 ? (short) v : v;
        return 1;
    }
    public long cell(int k, int i, int lane) {
        fault = 0;
        if (noSheet(k)) return Long.MIN_VALUE;
        return cells(k, lane, i, 1) != 0 ? Long.MIN_VALUE : sheets[k].cells[i];
    }
    public int copy(int k, int i, int other, int j, int n) {
        fault = 0;
        if (noSheet(k) || noSheet(other)) return UNKNOWN;
        if (sheets[k] == null || sheets[other] == null) return failed(NULL);
        if (sheets[k].lane != sheets[other].lane) return failed(CAST);
        int[] from = sheets[k].cells.clone();
        if (i < 0 || j < 0 || n < 0 || (long) i + n > from.length || (long) j + n > sheets[other].cells.length)
            return failed(INDEX);
        for (int c = 0; c < n; c++) sheets[other].cells[j + c] = from[i + c];
        return n;
    }
    private void bodies(int... numbers) { for (int b : numbers) trace = 31 * trace + b; }
    public int tell(int l) {
        if (noLink(l)) return UNKNOWN;
        Link x = links.get(l);
        switch (x.kind()) {
            case 0: bodies(1); return x.n();
            case 1: bodies(2, 1); return x.n() + x.k();
            case 2: bodies(3, 2, 1, 1); return 2 * x.n() + x.k();
            case 3: bodies(4, 1); return x.n() + 100;
            default: bodies(5, 4, 1, 1); return 2 * x.n() + 100;
        }
    }
    public int name(int l) {
        if (noLink(l)) return UNKNOWN;
        bodies(links.get(l).kind() == 4 ? 7 : 6);
        return links.get(l).kind() == 4 ? 40 : l;
    }
    public int as(int l, int kind) {
        fault = 0;
        if (noLink(l)) return UNKNOWN;
        if (kind < 0 || kind > 4) return OUTSIDE;
        return is(links.get(l).kind(), kind) ? 1 : failed(CAST);
    }
    public int trace() { return trace; }
    public int fault() { return fault; }
    public int many(int what) {
        if (what < 0 || what > 8) return OUTSIDE;
        return new int[] {now(), hands, owners.size(), words.size(), versions.size(), links.size(), rights.size(),
            clashes.size(), hits.size()}[what];
    }
}
