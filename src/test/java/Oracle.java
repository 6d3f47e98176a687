import java.util.ArrayList;
import java.util.Arrays;
import java.util.Comparator;
import java.util.HashMap;
import java.util.List;
import java.util.Map;
import java.util.NoSuchElementException;

/** The document once more, by trying everything: slow and plain, so that the class can be held against it. */
final class Oracle {
    static final int NONE = -1;

    static final class Engine {
        int length, kind, raise, tons, grade;
        boolean visitor;
    }

    static final class Train {
        int minute, kind, takes, engine = NONE;
    }

    /** Where all stand. */
    static final class Place {
        int table, now;
        boolean[] dead = new boolean[12];
        int[] lit = new int[12];
        List<List<Integer>> stalls = new ArrayList<>();

        Place copy() {
            Place p = new Place();
            p.table = table;
            p.now = now;
            p.dead = dead.clone();
            p.lit = lit.clone();
            for (List<Integer> s : stalls) {
                p.stalls.add(new ArrayList<>(s));
            }
            return p;
        }
    }

    int n = 11, turn = 1, go = 2;
    int[] length = new int[23], hoods = new int[23];
    boolean[] shut = new boolean[23];
    StringBuilder text = new StringBuilder();
    String rule = "";
    List<Engine> engines = new ArrayList<>();
    List<Train> trains = new ArrayList<>();
    Place p = new Place();
    List<Integer> row = new ArrayList<>();
    List<Integer> come = new ArrayList<>(), leave = new ArrayList<>();
    int[] there = new int[3], stays = new int[3];
    Place[] kept = new Place[3];

    Oracle() {
        Arrays.fill(p.lit, NONE);
        renew(11);
    }

    private void renew(int stalls) {
        n = stalls;
        p.table = n;
        p.stalls.clear();
        for (int i = 0; i < n; i++) {
            p.stalls.add(new ArrayList<>());
        }
        Arrays.fill(length, 30);
        Arrays.fill(hoods, 3);
        Arrays.fill(shut, false);
        Arrays.fill(kept, null);
    }

    private boolean noneInside() {
        return count(7) == 0;
    }

    int ring(int stalls) {
        if (stalls < 4 || stalls > 23 || !noneInside()) {
            return NONE;
        }
        int was = n;
        renew(stalls);
        return was;
    }

    boolean stall(int s, int l, int h) {
        if (s < 0 || s >= n || l < 10 || l > 60 || h < 0 || h > 3 || p.stalls.get(s).stream().mapToInt(e -> engines.get(e).length).sum() > l) {
            return false;
        }
        length[s] = l;
        hoods[s] = h;
        Arrays.fill(kept, null);
        return true;
    }

    int sheet(int kind, int many, int f, int step) {
        if (kind < 0 || kind > 3 || many > n || !noneInside()) {
            return NONE;
        }
        if (kind == 3) {
            Arrays.fill(length, 30);
            Arrays.fill(kept, null);
            return -3;
        }
        if (many < 0) {
            return -2;
        }
        Arrays.fill(kept, null);
        Arrays.fill(length, 30);
        for (int i = 0; i < many; i++) {
            int v = f + i * step;
            if (kind == 0) {
                v = (byte) v;
            }
            if (kind == 1) {
                v = (short) v;
            }
            length[i] = v < 10 ? 10 : v > 60 ? 60 : v;
        }
        int sum = 0;
        for (int i = 0; i < n; i++) {
            sum += length[i];
        }
        return sum;
    }

    boolean shut(int s, boolean is) {
        if (s < 0 || s >= n) {
            return false;
        }
        shut[s] = is;
        return true;
    }

    int set(int what, int v) {
        if (what == 0 && v > 0 && v < 10) {
            int was = turn;
            turn = v;
            return was;
        }
        if (what == 1 && v >= 0 && v < 10) {
            int was = go;
            go = v;
            return was;
        }
        return NONE;
    }

    int steps(int a, int b) {
        if (a < 0 || b < 0 || a > n || b > n) {
            return NONE;
        }
        int up = 0;
        for (int at = a; at != b; at = at == n ? 0 : at + 1) {
            up++;
        }
        return Math.min(up, (n + 1 - up) % (n + 1));
    }

    int sign(int v) {
        if (text.length() + 4 > 60) {
            return NONE;
        }
        text.append((char) (v >> 24 & 255)).append((char) (v >> 16 & 255)).append((char) (v >> 8 & 255)).append((char) (v & 255));
        return text.length();
    }

    boolean end(int many) {
        if (many < 0 || many > text.length()) {
            return false;
        }
        text.setLength(many);
        return true;
    }

    int rule() {
        String t = text.toString();
        text.setLength(0);
        int bad = firstBad(t);
        if (bad >= 0) {
            return -1 - bad;
        }
        rule = t;
        return 0;
    }

    /** Goes over the signs with what may come next, and for each open ( whether it has compared yet. */
    static int firstBad(String t) {
        if (t.isEmpty()) {
            return -1;
        }
        List<Boolean> compared = new ArrayList<>();
        compared.add(false);
        boolean wantThing = true;
        int digits = 0;
        for (int i = 0; i < t.length(); i++) {
            char c = t.charAt(i);
            int last = compared.size() - 1;
            if (i == 40) {
                return 40;
            }
            if (wantThing) {
                digits = 0;
                if (c == '!' || c == '-') {
                    continue;
                } else if (c == '(' && last < 5) {
                    compared.add(false);
                } else if (c >= '0' && c <= '9') {
                    digits = 1;
                    wantThing = false;
                } else if ("lcvdsnbh".indexOf(c) >= 0) {
                    wantThing = false;
                } else {
                    return i;
                }
            } else if (c >= '0' && c <= '9' && digits > 0 && digits < 3) {
                digits++;
            } else if (c == ')' && last > 0) {
                compared.remove(last);
                digits = 0;
            } else if (c == '+' || c == '-') {
                wantThing = true;
            } else if ((c == '<' || c == '>' || c == '=') && !compared.get(last)) {
                compared.set(last, true);
                wantThing = true;
            } else if (c == '&' || c == '|') {
                compared.set(last, false);
                wantThing = true;
            } else {
                return i;
            }
        }
        return wantThing || compared.size() > 1 ? t.length() : -1;
    }

    /** The text has to be right. It is split at the sign that binds least, the last of them. */
    static int value(String t, Map<Character, Integer> letters) {
        String[] levels = {"|", "&", "<>=", "+-"};
        for (String signs : levels) {
            int depth = 0;
            for (int i = t.length() - 1; i > 0; i--) {
                char c = t.charAt(i);
                depth += c == ')' ? 1 : c == '(' ? -1 : 0;
                boolean joins = "0123456789lcvdsnbh)".indexOf(t.charAt(i - 1)) >= 0;
                if (depth == 0 && joins && signs.indexOf(c) >= 0) {
                    int a = value(t.substring(0, i), letters);
                    int b = value(t.substring(i + 1), letters);
                    switch (c) {
                        case '|': return a != 0 | b != 0 ? 1 : 0;
                        case '&': return a != 0 & b != 0 ? 1 : 0;
                        case '<': return a < b ? 1 : 0;
                        case '>': return a > b ? 1 : 0;
                        case '=': return a == b ? 1 : 0;
                        case '+': return a + b;
                        default: return a - b;
                    }
                }
            }
        }
        char c = t.charAt(0);
        if (c == '!') {
            return value(t.substring(1), letters) == 0 ? 1 : 0;
        }
        if (c == '-') {
            return -value(t.substring(1), letters);
        }
        if (c == '(') {
            return value(t.substring(1, t.length() - 1), letters);
        }
        return c >= '0' && c <= '9' ? Integer.parseInt(t) : letters.get(c);
    }

    int engine(int l, int kind, int raise, boolean visitor) {
        if (l < 5 || l > 30 || kind < 0 || kind > 5 || raise < 0 || raise > 600 || engines.size() == 12) {
            return NONE;
        }
        Engine e = new Engine();
        e.length = l;
        e.kind = kind;
        e.raise = raise;
        e.visitor = visitor;
        engines.add(e);
        Arrays.fill(kept, null);
        return engines.size() - 1;
    }

    private boolean no(int e) {
        return e < 0 || e >= engines.size();
    }

    boolean light(int e) {
        if (no(e) || p.lit[e] != NONE) {
            return false;
        }
        p.lit[e] = p.now;
        return true;
    }

    int drop(int e) {
        if (no(e) || p.lit[e] == NONE) {
            return NONE;
        }
        int was = p.now - p.lit[e];
        p.lit[e] = NONE;
        return was;
    }

    boolean dead(int e, boolean is) {
        if (no(e)) {
            return false;
        }
        p.dead[e] = is;
        return true;
    }

    int stallOf(Place q, int e) {
        for (int s = 0; s < n; s++) {
            if (q.stalls.get(s).contains(e)) {
                return s;
            }
        }
        return n;
    }

    int frontOf(Place q, int e) {
        int s = stallOf(q, e);
        return s < n && q.stalls.get(s).size() == 2 && q.stalls.get(s).get(0) == e ? q.stalls.get(s).get(1) : NONE;
    }

    boolean inSteam(Place q, int e) {
        return q.lit[e] != NONE && q.lit[e] + engines.get(e).raise <= q.now;
    }

    boolean mayGo(Place q, int e) {
        return inSteam(q, e) && !q.dead[e];
    }

    boolean hood(Place q, int e) {
        int s = stallOf(q, e);
        return s < n && (hoods[s] & (q.stalls.get(s).indexOf(e) == 0 ? 2 : 1)) != 0;
    }

    int of(int e, int what) {
        if (no(e) || what < 0 || what > 6) {
            throw new NoSuchElementException();
        }
        int s = stallOf(p, e);
        switch (what) {
            case 0: return s;
            case 1: return s < n && p.stalls.get(s).indexOf(e) == 0 ? 1 : 0;
            case 2: return engines.get(e).kind;
            case 3: return p.lit[e];
            case 4: return inSteam(p, e) ? 1 : 0;
            case 5: return frontOf(p, e) == NONE ? 0 : 1;
            default: return hood(p, e) ? 1 : 0;
        }
    }

    boolean lets(Place q, int s, int e, boolean back) {
        if (rule.isEmpty()) {
            return true;
        }
        Map<Character, Integer> m = new HashMap<>();
        m.put('l', engines.get(e).length);
        m.put('c', engines.get(e).kind);
        m.put('v', engines.get(e).visitor ? 1 : 0);
        m.put('d', q.dead[e] ? 1 : 0);
        m.put('s', inSteam(q, e) ? 1 : 0);
        m.put('n', s);
        m.put('b', back ? 1 : 0);
        m.put('h', (hoods[s] & (back ? 2 : 1)) != 0 ? 1 : 0);
        return value(rule, m) != 0;
    }

    boolean takesIt(Place q, int s, int e) {
        int sum = engines.get(e).length;
        for (int o : q.stalls.get(s)) {
            sum += engines.get(o).length;
        }
        return !shut[s] && q.stalls.get(s).size() < 2 && sum <= length[s] && !q.stalls.get(s).contains(e) && lets(q, s, e, q.stalls.get(s).isEmpty());
    }

    int takes(int s, int e) {
        return s < 0 || s >= n || no(e) ? NONE : takesIt(p, s, e) ? 1 : 0;
    }

    int smoke() {
        return smoke(p);
    }

    int smoke(Place q) {
        int bits = 0;
        for (int e = 0; e < engines.size(); e++) {
            if (q.lit[e] != NONE && stallOf(q, e) < n && !hood(q, e)) {
                bits |= 1 << e;
            }
        }
        return bits;
    }

    int pass(int m) {
        return m < 0 || m > 600 ? NONE : (p.now += m);
    }

    /** The minutes of a MOVE, which is done; NONE if it can't be. */
    int go(Place q, int e, int point, boolean dragged) {
        int from = stallOf(q, e);
        if (point == from || frontOf(q, e) != NONE || point < 0 || point > n || !dragged && !mayGo(q, e)) {
            return NONE;
        }
        if (point < n && !takesIt(q, point, e)) {
            return NONE;
        }
        int m = turn * (steps(q.table, from) + steps(from, point)) + 2 * go;
        m = dragged ? 2 * m : m;
        if (from < n) {
            q.stalls.get(from).remove((Integer) e);
        }
        if (point < n) {
            q.stalls.get(point).add(e);
        }
        q.table = point;
        q.now += m;
        return m;
    }

    int move(int e, int point) {
        return no(e) ? NONE : go(p, e, point, false);
    }

    int drag(int e, int by, int point) {
        return no(e) || no(by) || e == by || stallOf(p, by) < n || !mayGo(p, by) ? NONE : go(p, e, point, true);
    }

    /** What freeing an engine leads to: minutes, where the other goes, and how all stand then. */
    static final class Freed {
        int minutes = -2, aside = NONE, asideMinutes = 0, own = 0;
        Place after;
    }

    Freed freed(Place q, int e) {
        Freed best = new Freed();
        int f = frontOf(q, e);
        if (!mayGo(q, e) || f != NONE && !mayGo(q, f)) {
            return best;
        }
        for (int point = f == NONE ? n : 0; point <= n; point++) {
            Place t = q.copy();
            int first = f == NONE ? 0 : go(t, f, point, false);
            if (first == NONE) {
                continue;
            }
            int second = go(t, e, n, false);
            if (best.minutes < 0 || first + second < best.minutes) {
                best.minutes = first + second;
                best.aside = f == NONE ? NONE : point;
                best.asideMinutes = first;
                best.own = second;
                best.after = t;
            }
        }
        return best;
    }

    int free(int e) {
        if (no(e) || stallOf(p, e) == n) {
            return NONE;
        }
        Freed f = freed(p, e);
        if (f.minutes >= 0) {
            row = List.of(f.aside);
        }
        return f.minutes;
    }

    /** Told ones, by number; null if one of them is none. */
    private List<Integer> bits(int told) {
        List<Integer> list = new ArrayList<>();
        for (int i = 0; i < 32; i++) {
            if ((told >> i & 1) != 0) {
                if (no(i)) {
                    return null;
                }
                list.add(i);
            }
        }
        return list;
    }

    private int bestMinutes;
    private List<Integer> bestRow;

    private void offer(int minutes, List<Integer> list) {
        if (bestRow == null || minutes < bestMinutes || minutes == bestMinutes && less(list, bestRow)) {
            bestMinutes = minutes;
            bestRow = new ArrayList<>(list);
        }
    }

    static boolean less(List<Integer> a, List<Integer> b) {
        for (int i = 0; i < Math.min(a.size(), b.size()); i++) {
            if (!a.get(i).equals(b.get(i))) {
                return a.get(i) < b.get(i);
            }
        }
        return a.size() < b.size();
    }

    int order(int told) {
        List<Integer> list = bits(told);
        if (list == null || list.isEmpty() || list.size() > 5 || list.stream().anyMatch(e -> stallOf(p, e) == n)) {
            return NONE;
        }
        bestRow = null;
        orders(p, list, new ArrayList<>(), 0);
        if (bestRow == null) {
            return -2;
        }
        row = bestRow;
        return bestMinutes;
    }

    private void orders(Place q, List<Integer> left, List<Integer> done, int spent) {
        if (left.isEmpty()) {
            offer(spent, done);
        }
        for (Integer e : left) {
            List<Integer> rest = new ArrayList<>(left);
            rest.remove(e);
            List<Integer> more = new ArrayList<>(done);
            more.add(e);
            if (stallOf(q, e) == n) {
                orders(q, rest, more, spent);
            } else {
                Freed f = freed(q, e);
                if (f.minutes >= 0) {
                    orders(f.after, rest, more, spent + f.minutes);
                }
            }
        }
    }

    int clear(int s) {
        if (s < 0 || s >= n) {
            return NONE;
        }
        bestRow = null;
        clears(p, s, new ArrayList<>(), 0);
        if (bestRow == null) {
            return -2;
        }
        row = bestRow;
        return bestMinutes;
    }

    private void clears(Place q, int s, List<Integer> done, int spent) {
        List<Integer> in = q.stalls.get(s);
        if (in.isEmpty()) {
            offer(spent, done);
            return;
        }
        for (int point = 0; point <= n; point++) {
            Place t = q.copy();
            int m = go(t, in.get(in.size() - 1), point, false);
            if (m != NONE) {
                List<Integer> more = new ArrayList<>(done);
                more.add(point);
                clears(t, s, more, spent + m);
            }
        }
    }

    int under() {
        for (int many = 0; many <= 2; many++) {
            bestRow = null;
            unders(p, many, new ArrayList<>(), 0);
            if (bestRow != null) {
                row = bestRow;
                return many;
            }
        }
        return -2;
    }

    private void unders(Place q, int many, List<Integer> done, int spent) {
        if (many == 0) {
            if (smoke(q) == 0) {
                offer(spent, done);
            }
            return;
        }
        for (int e = 0; e < engines.size(); e++) {
            for (int s = 0; s < n; s++) {
                if (!mayGo(q, e)) {
                    continue;
                }
                Place t = q.copy();
                int m = go(t, e, s, false);
                if (m != NONE) {
                    List<Integer> more = new ArrayList<>(done);
                    more.add(e);
                    more.add(s);
                    unders(t, many - 1, more, spent + m);
                }
            }
        }
    }

    int comes(int e) {
        if (no(e) || stallOf(p, e) < n || come.contains(e) || come.size() == 6) {
            return NONE;
        }
        come.add(e);
        return come.size();
    }

    int leaves(int e) {
        if (!come.contains(e) || leave.contains(e)) {
            return NONE;
        }
        leave.add(e);
        return leave.size();
    }

    int nobody() {
        int was = come.size();
        come.clear();
        leave.clear();
        return was;
    }

    int put() {
        if (come.isEmpty() || leave.size() != come.size()) {
            return NONE;
        }
        if (come.stream().anyMatch(e -> stallOf(p, e) < n)) {
            return -2;
        }
        bestRow = null;
        puts(new ArrayList<>(), 0);
        if (bestRow == null) {
            return -2;
        }
        row = bestRow;
        return bestMinutes;
    }

    private void puts(List<Integer> done, int spent) {
        if (bestRow != null && spent > bestMinutes) {
            return;
        }
        if (done.size() == come.size()) {
            offer(spent, done);
            return;
        }
        int e = come.get(done.size());
        for (int s = 0; s < n; s++) {
            if (shut[s] || !p.stalls.get(s).isEmpty()) {
                continue;
            }
            List<Integer> in = new ArrayList<>();
            for (int i = 0; i < done.size(); i++) {
                if (done.get(i) == s) {
                    in.add(come.get(i));
                }
            }
            int sum = engines.get(e).length;
            for (int o : in) {
                sum += engines.get(o).length;
            }
            boolean can = in.size() < 2 && sum <= length[s] && lets(p, s, e, in.isEmpty());
            if (can && (in.isEmpty() || leave.indexOf(e) < leave.indexOf(in.get(0)))) {
                List<Integer> more = new ArrayList<>(done);
                more.add(s);
                puts(more, spent + 4 * steps(n, s));
            }
        }
    }

    int room(int told) {
        List<Integer> list = bits(told);
        if (list == null || list.isEmpty() || list.stream().anyMatch(e -> stallOf(p, e) < n)) {
            return NONE;
        }
        Map<Long, List<Integer>> known = new HashMap<>();
        row = rooms(list, 0, 0, known);
        return (int) row.stream().filter(s -> s != NONE).count();
    }

    private List<Integer> rooms(List<Integer> list, int i, int used, Map<Long, List<Integer>> known) {
        if (i == list.size()) {
            return new ArrayList<>();
        }
        long key = (long) i << 32 | used;
        if (known.containsKey(key)) {
            return known.get(key);
        }
        List<Integer> best = null;
        long most = -1;
        for (int s = NONE; s < n; s++) {
            if (s != NONE && ((used >> s & 1) != 0 || !takesIt(p, s, list.get(i)))) {
                continue;
            }
            List<Integer> tail = rooms(list, i + 1, s == NONE ? used : used | 1 << s, known);
            long had = tail.stream().filter(t -> t != NONE).count() + (s == NONE ? 0 : 1);
            if (had > most) {
                most = had;
                best = new ArrayList<>();
                best.add(s);
                best.addAll(tail);
            }
        }
        known.put(key, best);
        return best;
    }

    int coal(int g, int t, int s) {
        if (g < 0 || g > 2 || t < 0 || t > 999 || s < 0 || s > 999) {
            return NONE;
        }
        int was = there[g];
        there[g] = t;
        stays[g] = s;
        return was;
    }

    boolean wants(int e, int tons, int g) {
        if (no(e) || tons < 0 || tons > 40 || g < 0 || g > 2) {
            return false;
        }
        engines.get(e).tons = tons;
        engines.get(e).grade = g;
        return true;
    }

    /** The grades, then what would be there; null if it can't be. */
    private List<Integer> coals(List<Integer> list) {
        List<Integer> best = null;
        int many = (int) Math.round(Math.pow(3, list.size()));
        for (int way = 0; way < many; way++) {
            int[] left = there.clone();
            List<Integer> grades = new ArrayList<>();
            boolean can = true;
            int rest = way;
            for (int e : list) {
                int g = rest % 3;
                rest /= 3;
                can &= g >= engines.get(e).grade;
                left[g] -= engines.get(e).tons;
                grades.add(g);
            }
            for (int g = 0; g < 3; g++) {
                // Of a grade of which nothing is taken nothing is asked.
                can &= left[g] == there[g] || left[g] >= stays[g];
                grades.add(left[g]);
            }
            if (!can) {
                continue;
            }
            int size = grades.size();
            if (best == null || left[2] > best.get(size - 1)
                    || left[2] == best.get(size - 1) && left[1] > best.get(size - 2)
                    || left[2] == best.get(size - 1) && left[1] == best.get(size - 2) && less(grades, best)) {
                best = grades;
            }
        }
        return best;
    }

    int coaled(int told) {
        List<Integer> list = bits(told);
        if (list == null || list.isEmpty() || list.size() > 7) {
            return NONE;
        }
        List<Integer> best = coals(list);
        if (best == null) {
            return -2;
        }
        row = best;
        return list.stream().mapToInt(e -> engines.get(e).tons).sum();
    }

    int fill(int told) {
        int sum = coaled(told);
        if (sum >= 0) {
            for (int g = 0; g < 3; g++) {
                there[g] = row.get(row.size() - 3 + g);
            }
        }
        return sum;
    }

    int burns(int told) {
        List<Integer> list = bits(told);
        if (list == null || list.isEmpty() || list.size() > 7) {
            return NONE;
        }
        int best = 0;
        for (int sub = 1; sub <= told; sub++) {
            if ((sub & ~told) == 0 && Integer.bitCount(sub) > Integer.bitCount(best) && coals(bits(sub)) != null) {
                best = sub;
            }
        }
        row = List.of(best);
        return Integer.bitCount(best);
    }

    int train(int minute, int kind, int takes) {
        if (minute < 0 || minute > 2000 || kind < 0 || kind > 5 || takes < 1 || takes > 600 || trains.size() == 8) {
            return NONE;
        }
        Train t = new Train();
        t.minute = minute;
        t.kind = kind;
        t.takes = takes;
        trains.add(t);
        return trains.size() - 1;
    }

    private boolean noTrain(int t) {
        return t < 0 || t >= trains.size();
    }

    boolean plan(int t, int e) {
        if (noTrain(t) || e != NONE && no(e)) {
            return false;
        }
        for (int o = 0; o < trains.size(); o++) {
            if (o != t && e != NONE && trains.get(o).engine == e) {
                return false;
            }
        }
        trains.get(t).engine = e;
        return true;
    }

    boolean suits(int e, int t) {
        int lit = p.lit[e] == NONE ? p.now : p.lit[e];
        return !p.dead[e] && engines.get(e).kind >= trains.get(t).kind && lit + engines.get(e).raise <= trains.get(t).minute;
    }

    int fits(int e, int t) {
        return no(e) || noTrain(t) ? NONE : suits(e, t) ? 1 : 0;
    }

    int most() {
        row = rows(0, 0, NONE, false, new HashMap<>());
        return had(row);
    }

    private int had(List<Integer> list) {
        return (int) list.stream().filter(e -> e != NONE).count();
    }

    private int parts(List<Integer> list, int from) {
        int sum = 0;
        for (int i = 0; i < list.size(); i++) {
            sum += list.get(i) == trains.get(from + i).engine ? 0 : 1;
        }
        return sum;
    }

    private List<Integer> rows(int t, int used, int without, boolean near, Map<Integer, List<Integer>> known) {
        if (t == trains.size()) {
            return new ArrayList<>();
        }
        int key = t << 12 | used;
        if (known.containsKey(key)) {
            return known.get(key);
        }
        List<Integer> best = null;
        for (int e = NONE; e < engines.size(); e++) {
            if (e != NONE && (e == without || (used >> e & 1) != 0 || !suits(e, t))) {
                continue;
            }
            List<Integer> list = new ArrayList<>();
            list.add(e);
            list.addAll(rows(t + 1, e == NONE ? used : used | 1 << e, without, near, known));
            if (best == null || had(list) > had(best) || had(list) == had(best) && near && parts(list, t) < parts(best, t)) {
                best = list;
            }
        }
        known.put(key, best);
        return best;
    }

    int fails(int e) {
        if (no(e)) {
            return NONE;
        }
        List<Integer> list = rows(0, 0, e, true, new HashMap<>());
        row = new ArrayList<>(list);
        row.add(0, had(list));
        return parts(list, 0);
    }

    int soonest(int t) {
        if (noTrain(t)) {
            return NONE;
        }
        int best = -2;
        int fewest = 1 << 20;
        for (int e = 0; e < engines.size(); e++) {
            if (suits(e, t)) {
                int m = stallOf(p, e) == n ? 0 : freed(p, e).minutes;
                if (m >= 0 && m < fewest) {
                    fewest = m;
                    best = e;
                }
            }
        }
        if (best >= 0) {
            row = List.of(fewest);
        }
        return best;
    }

    int wrong() {
        int bits = 0;
        for (Train t : trains) {
            if (t.engine != NONE && frontOf(p, t.engine) != NONE) {
                int f = frontOf(p, t.engine);
                boolean good = trains.stream().anyMatch(o -> o.engine == f && o.minute <= t.minute);
                bits |= good ? 0 : 1 << t.engine;
            }
        }
        return bits;
    }

    int exchange() {
        List<Integer> was = row;
        int best = morning();
        row = was;
        List<Integer> both = new ArrayList<>();
        for (int a = 0; a < trains.size(); a++) {
            for (int b = a + 1; b < trains.size(); b++) {
                Train one = trains.get(a);
                Train other = trains.get(b);
                if (one.engine == NONE || other.engine == NONE || !suits(one.engine, b) || !suits(other.engine, a)) {
                    continue;
                }
                int e = one.engine;
                one.engine = other.engine;
                other.engine = e;
                int sum = morning();
                other.engine = one.engine;
                one.engine = e;
                if (sum < best) {
                    best = sum;
                    both = List.of(a, b);
                }
            }
        }
        row = both;
        return best;
    }

    int crews(int rest, int duty) {
        if (rest < 0 || rest > 600 || duty < 1 || duty > 2000) {
            return NONE;
        }
        if (trains.stream().anyMatch(t -> t.takes > duty)) {
            return -2;
        }
        bestRow = null;
        crews(new ArrayList<>(), rest, duty);
        row = bestRow;
        return bestMinutes;
    }

    private void crews(List<Integer> men, int rest, int duty) {
        if (men.size() == trains.size()) {
            int many = 0;
            for (int m = 0; men.contains(m); m++) {
                many++;
                int man = m;
                List<Train> his = new ArrayList<>();
                for (int t = 0; t < trains.size(); t++) {
                    if (men.get(t) == man) {
                        his.add(trains.get(t));
                    }
                }
                his.sort(Comparator.comparingInt(t -> t.minute));
                int end = -100000;
                for (Train t : his) {
                    if (t.minute < end + (end < 0 ? 0 : rest)) {
                        return;
                    }
                    end = t.minute + t.takes;
                }
                if (end - his.get(0).minute > duty) {
                    return;
                }
            }
            offer(many, men);
            return;
        }
        int next = men.stream().mapToInt(m -> m + 1).max().orElse(0);
        for (int m = 0; m <= next; m++) {
            List<Integer> more = new ArrayList<>(men);
            more.add(m);
            crews(more, rest, duty);
        }
    }

    int fires(int w, int k) {
        if (w < 1 || w > 120 || k < 1 || k > 6) {
            return -5001;
        }
        List<Integer> list = new ArrayList<>();
        Integer[] begun = new Integer[trains.size()];
        Arrays.fill(begun, NONE);
        for (int t = 0; t < trains.size(); t++) {
            if (trains.get(t).engine != NONE && p.lit[trains.get(t).engine] == NONE) {
                list.add(t);
            }
        }
        if (list.isEmpty()) {
            return -5000;
        }
        list.sort((a, b) -> by(a) != by(b) ? by(b) - by(a) : b - a);
        int[] free = new int[k];
        Arrays.fill(free, 1 << 20);
        int first = 1 << 20;
        for (int t : list) {
            int who = 0;
            for (int m = 0; m < k; m++) {
                who = free[m] > free[who] ? m : who;
            }
            begun[t] = Math.min(by(t), free[who]) - w;
            free[who] = begun[t];
            first = Math.min(first, begun[t]);
        }
        row = Arrays.asList(begun);
        return first;
    }

    private int by(int t) {
        return trains.get(t).minute - engines.get(trains.get(t).engine).raise;
    }

    int men(int w) {
        if (w < 1 || w > 120) {
            return NONE;
        }
        List<Integer> was = row;
        for (int k = 1; k <= 6; k++) {
            int first = fires(w, k);
            row = was;
            if (first == -5000 || first >= p.now) {
                return k;
            }
        }
        return -2;
    }

    int frost(int far) {
        if (far < 0 || far > 12) {
            return NONE;
        }
        int all = count(7);
        int best = NONE;
        for (int sub = 0; sub <= all; sub++) {
            boolean can = (sub & ~all) == 0 && (best == NONE || Integer.bitCount(sub) < Integer.bitCount(best));
            for (int e = 0; e < engines.size() && can; e++) {
                boolean warm = (all >> e & 1) == 0;
                for (int o = 0; o < engines.size() && !warm; o++) {
                    int d = Math.abs(stallOf(p, e) - stallOf(p, o));
                    warm = (sub >> o & 1) != 0 && Math.min(d, n - d) <= far;
                }
                can = warm;
            }
            if (can) {
                best = sub;
            }
        }
        row = List.of(best);
        return Integer.bitCount(best);
    }

    private int[][] causes = new int[8][];

    int morning() {
        Place q = p.copy();
        for (Train t : trains) {
            if (t.engine != NONE) {
                int f = frontOf(q, t.engine);
                q.lit[t.engine] = q.lit[t.engine] == NONE ? p.now : q.lit[t.engine];
                if (f != NONE && q.lit[f] == NONE) {
                    q.lit[f] = p.now;
                }
            }
        }
        List<Integer> list = new ArrayList<>();
        Integer[] late = new Integer[trains.size()];
        for (int t = 0; t < trains.size(); t++) {
            list.add(t);
        }
        list.sort(Comparator.comparingInt(t -> trains.get(t).minute));
        int table = p.now;
        int sum = 0;
        for (int t : list) {
            Train it = trains.get(t);
            late[t] = it.engine == NONE ? -2 : NONE;
            if (it.engine == NONE || q.dead[it.engine]) {
                continue;
            }
            int e = it.engine;
            int f = frontOf(q, e);
            int ready = Math.max(p.now, q.lit[e] + engines.get(e).raise);
            if (stallOf(q, e) == n) {
                late[t] = Math.max(0, ready - it.minute);
                causes[t] = new int[] {0, late[t], 0};
            } else {
                if (f != NONE) {
                    ready = Math.max(ready, q.lit[f] + engines.get(f).raise);
                }
                Place then = q.copy();
                then.now = Math.max(table, ready);
                Freed freed = freed(then, e);
                if (freed.minutes < 0) {
                    continue;
                }
                int ought = it.minute - freed.own;
                causes[t] = new int[] {Math.max(0, table - ought), Math.max(0, ready - ought), freed.asideMinutes};
                q = freed.after;
                table = q.now;
                late[t] = Math.max(0, q.now - it.minute);
            }
            sum += late[t];
        }
        row = Arrays.asList(late);
        return sum;
    }

    int why(int t) {
        if (noTrain(t)) {
            return NONE;
        }
        List<Integer> was = row;
        morning();
        int late = row.get(t);
        row = was;
        if (late == -2 || late == 0) {
            return late;
        }
        if (late == NONE) {
            return 5;
        }
        int[] c = causes[t];
        row = List.of(c[0], c[1], c[2]);
        int best = 0;
        for (int i = 1; i < 3; i++) {
            best = c[i] > c[best] ? i : best;
        }
        return best + 1;
    }

    boolean keep(int i) {
        if (i < 0 || i > 2) {
            return false;
        }
        kept[i] = p.copy();
        return true;
    }

    boolean again(int i) {
        if (i < 0 || i > 2 || kept[i] == null) {
            return false;
        }
        p = kept[i].copy();
        return true;
    }

    int count(int what) {
        int in = 0, lit = 0, dead = 0;
        for (int e = 0; e < engines.size(); e++) {
            in |= stallOf(p, e) < n ? 1 << e : 0;
            lit |= p.lit[e] != NONE ? 1 << e : 0;
            dead |= p.dead[e] ? 1 << e : 0;
        }
        int[] all = {n, engines.size(), p.now, p.table, trains.size(), come.size(), leave.size(), in, lit, dead, row.size(), text.length()};
        return what < 0 || what > 11 ? NONE : all[what];
    }

    int inside(int s) {
        if (s < 0 || s >= n) {
            return NONE;
        }
        row = new ArrayList<>(p.stalls.get(s));
        return row.size();
    }

    int row(int i) {
        if (i < 0 || i >= row.size()) {
            throw new NoSuchElementException();
        }
        return row.get(i);
    }
}
