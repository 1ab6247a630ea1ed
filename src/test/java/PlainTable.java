import java.util.ArrayList;
import java.util.List;
import java.util.function.Function;
import java.util.function.ToLongFunction;

/**
 * The document a second time, written for plainness alone: texts are read byte by byte with
 * exceptions, states are copied whole, every question is answered by trying all there is.
 * ModelTest holds SunTable against it.
 */
final class PlainTable {
    static final class Fault extends RuntimeException {
        private static final long serialVersionUID = 1;
        final int number;
        Fault(int place, int kind) {
            number = 1 + 8 * place + kind;
        }
    }

    static final class Land {
        int men, sun, hay, barn, from = -1;
        Land copy() {
            Land l = new Land();
            l.men = men; l.sun = sun; l.hay = hay; l.barn = barn; l.from = from;
            return l;
        }
    }

    static final class State {
        List<Land> lands = new ArrayList<>();
        int rate, week, bought;
        State copy() {
            State s = new State();
            for (Land l : lands) s.lands.add(l.copy());
            s.rate = rate; s.week = week; s.bought = bought;
            return s;
        }
        boolean can(int a, int b) {
            return a != b && lands.get(a).men >= rate && lands.get(b).sun > 0;
        }
        void buys(int a, int b) {
            lands.get(a).men -= rate;
            lands.get(b).men = Math.min(999, lands.get(b).men + rate);
            lands.get(b).sun -= 1;
            lands.get(a).sun = Math.min(99, lands.get(a).sun + 1);
            bought++;
        }
        int barns() {
            return lands.stream().mapToInt(l -> l.barn).sum();
        }
    }

    record Told(int land, int week) { }
    record Note(int week, int land, int other) { }
    record Pair(State s, List<Told> told, int land, int other) { }
    record Clause(ToLongFunction<Pair> sum, Function<Pair, Boolean> test) { }

    /** Everything that an image keeps; lists are replaced, never changed. */
    static final class All {
        boolean there;
        int stale;
        State first = new State();
        State now = new State();
        List<Told> told = List.of();
        List<State> past = List.of();
        List<Note> notes = List.of();
        int force = -1;
        long x;
        All copy() {
            All a = new All();
            a.there = there; a.stale = stale; a.first = first; a.now = now.copy(); a.told = told;
            a.past = past; a.notes = notes; a.force = force; a.x = x;
            return a;
        }
    }

    // ---- reading

    private String text = "";
    private int at;
    private int parts;

    private void blanks() {
        while (at < text.length() && text.charAt(at) == ' ') at++;
    }

    private String letters() {
        blanks();
        int end = at;
        while (end < text.length() && text.charAt(end) >= 'a' && text.charAt(end) <= 'z') end++;
        return text.substring(at, end);
    }

    private String digits() {
        blanks();
        int end = at;
        while (end < text.length() && text.charAt(end) >= '0' && text.charAt(end) <= '9') end++;
        return text.substring(at, end);
    }

    private boolean sign(char c) {
        blanks();
        if (at < text.length() && text.charAt(at) == c) {
            at++;
            return true;
        }
        return false;
    }

    private int number(int least, int most) {
        String d = digits();
        if (d.isEmpty()) throw new Fault(at, 0);
        if (d.length() > 5) throw new Fault(at, 1);
        int n = Integer.parseInt(d);
        if (n < least || n > most) throw new Fault(at, 1);
        at += d.length();
        return n;
    }

    private boolean clauseEnds() {
        blanks();
        if (at == text.length()) return true;
        if (!sign(';')) throw new Fault(at, 0);
        return false;
    }

    private All readTable() {
        All a = new All();
        at = 0;
        int clauses = 0;
        do {
            String word = letters();
            if (!List.of("table", "land", "sun").contains(word)) throw new Fault(at, 0);
            if (clauses == 40) throw new Fault(at, 4);
            if (clauses == 0 && !word.equals("table")) throw new Fault(at, 4);
            if (clauses > 0 && word.equals("table")) throw new Fault(at, 4);
            if (word.equals("land") && a.first.lands.size() == 5) throw new Fault(at, 4);
            at += word.length();
            if (word.equals("table")) {
                a.first.rate = number(1, 9);
                a.stale = number(0, 9);
            } else if (word.equals("land")) {
                Land l = new Land();
                l.men = number(0, 99);
                l.sun = number(0, 9);
                l.hay = number(0, 99);
                a.first.lands.add(l);
            } else {
                int land = number(0, a.first.lands.size() - 1);
                int week = number(0, 60);
                List<Told> more = new ArrayList<>(a.told);
                more.add(new Told(land, week));
                a.told = more;
            }
            clauses++;
        } while (!clauseEnds());
        a.there = true;
        a.now = a.first.copy();
        return a;
    }

    private List<Clause> readRule() {
        List<Clause> out = new ArrayList<>();
        at = 0;
        parts = 0;
        do {
            if (!letters().equals("buy")) throw new Fault(at, 0);
            if (out.size() == 12) throw new Fault(at, 4);
            at += 3;
            ToLongFunction<Pair> sum = sum();
            Function<Pair, Boolean> test = p -> true;
            if (letters().equals("if")) {
                at += 2;
                test = test(0);
            }
            out.add(new Clause(sum, test));
        } while (!clauseEnds());
        return out;
    }

    private Function<Pair, Boolean> test(int depth) {
        Function<Pair, Boolean> left = part(depth);
        while (letters().equals("or")) {
            at += 2;
            Function<Pair, Boolean> a = left, b = part(depth);
            left = p -> a.apply(p) || b.apply(p);
        }
        return left;
    }

    private Function<Pair, Boolean> part(int depth) {
        Function<Pair, Boolean> left = fact(depth);
        while (letters().equals("and")) {
            at += 3;
            Function<Pair, Boolean> a = left, b = fact(depth);
            left = p -> a.apply(p) && b.apply(p);
        }
        return left;
    }

    private Function<Pair, Boolean> fact(int depth) {
        blanks();
        int place = at;
        if (letters().equals("not")) {
            if (depth == 10) throw new Fault(place, 2);
            at += 3;
            Function<Pair, Boolean> f = fact(depth + 1);
            return p -> !f.apply(p);
        }
        if (sign('[')) {
            if (depth == 10) throw new Fault(place, 2);
            Function<Pair, Boolean> f = test(depth + 1);
            if (!sign(']')) throw new Fault(at, 0);
            return f;
        }
        ToLongFunction<Pair> a = sum();
        blanks();
        place = at;
        int less = sign('<') ? 1 : 0;
        int more = less == 0 && sign('>') ? 1 : 0;
        boolean same = at < text.length() && text.charAt(at) == '=';
        if (same) at++;
        if (less == 0 && more == 0 && !same) throw new Fault(place, 0);
        if (parts == 60) throw new Fault(place, 3);
        parts++;
        ToLongFunction<Pair> b = sum();
        return p -> {
            int c = Long.compare(a.applyAsLong(p), b.applyAsLong(p));
            return c < 0 && less == 1 || c > 0 && more == 1 || c == 0 && same;
        };
    }

    private ToLongFunction<Pair> sum() {
        ToLongFunction<Pair> left = term();
        while (true) {
            ToLongFunction<Pair> a = left;
            if (sign('+')) {
                ToLongFunction<Pair> b = term();
                left = p -> a.applyAsLong(p) + b.applyAsLong(p);
            } else if (sign('-')) {
                ToLongFunction<Pair> b = term();
                left = p -> a.applyAsLong(p) - b.applyAsLong(p);
            } else {
                return left;
            }
        }
    }

    private ToLongFunction<Pair> term() {
        ToLongFunction<Pair> left = value();
        while (true) {
            ToLongFunction<Pair> a = left;
            if (sign('*')) {
                ToLongFunction<Pair> b = value();
                left = p -> a.applyAsLong(p) * b.applyAsLong(p);
            } else if (sign('/')) {
                ToLongFunction<Pair> b = value();
                left = p -> b.applyAsLong(p) == 0 ? 0 : a.applyAsLong(p) / b.applyAsLong(p);
            } else if (sign('%')) {
                ToLongFunction<Pair> b = value();
                left = p -> b.applyAsLong(p) == 0 ? 0 : a.applyAsLong(p) % b.applyAsLong(p);
            } else {
                return left;
            }
        }
    }

    private ToLongFunction<Pair> value() {
        String d = digits();
        String w = letters();
        if (d.isEmpty() && !List.of("land", "other", "men", "sun", "hay", "barn", "theirmen", "theirsun",
                "theirhay", "rate", "soon", "week").contains(w)) {
            throw new Fault(at, 0);
        }
        if (d.length() > 5) throw new Fault(at, 1);
        if (parts == 60) throw new Fault(at, 3);
        parts++;
        at += d.length() + w.length();
        if (!d.isEmpty()) {
            at -= w.length();
            long n = Long.parseLong(d);
            return p -> n;
        }
        return p -> word(w, p);
    }

    private static long word(String w, Pair p) {
        Land a = p.s.lands.get(p.land);
        Land b = p.s.lands.get(p.other);
        switch (w) {
            case "land": return p.land;
            case "other": return p.other;
            case "men": return a.men;
            case "sun": return a.sun;
            case "hay": return a.hay;
            case "barn": return a.barn;
            case "theirmen": return b.men;
            case "theirsun": return b.sun;
            case "theirhay": return b.hay;
            case "rate": return p.s.rate;
            case "week": return p.s.week;
            default:
                return p.told.stream().filter(t -> t.land == p.land && t.week > p.s.week)
                    .mapToInt(t -> t.week - p.s.week).min().orElse(99);
        }
    }

    // ---- weeks

    /** What a question puts in place of a rule's choice; null: the rule chooses. */
    interface Chooser {
        Integer choose(State s, int land);
    }

    static final class Impossible extends RuntimeException {
        private static final long serialVersionUID = 1;
    }

    private int pass(State s, int rule, int shunned, Chooser chooser) {
        for (Told t : all.told) {
            if (t.week == s.week) {
                Land l = s.lands.get(t.land);
                l.sun = Math.min(99, l.sun + 1);
            }
        }
        int n = 0;
        for (int a = 0; a < s.lands.size(); a++) {
            Integer chosen = chooser == null ? null : chooser.choose(s, a);
            int b = chosen != null ? chosen : byRule(s, a, rule, shunned);
            if (b >= 0 && !s.can(a, b)) throw new Impossible();
            s.lands.get(a).from = b;
            if (b >= 0) {
                s.buys(a, b);
                n++;
            }
        }
        for (Land l : s.lands) {
            if (l.hay > 0 && l.sun > 0) {
                l.sun--;
                int cut = Math.min(l.men, l.hay);
                l.hay -= cut;
                l.barn = Math.min(9999, l.barn + cut);
            } else if (l.hay > 0) {
                l.hay--;
            }
        }
        for (Land l : s.lands) l.sun = Math.min(l.sun, all.stale);
        s.week++;
        return n;
    }

    private int byRule(State s, int a, int rule, int shunned) {
        int found = -1;
        long most = 0;
        for (int b = 0; b < s.lands.size(); b++) {
            if (!s.can(a, b) || (shunned >> b & 1) != 0) continue;
            long v = 0;
            if (rule < 0) {
                if (s.lands.get(a).hay > 0 && s.lands.get(a).sun == 0) v = s.lands.get(b).sun;
            } else {
                Pair p = new Pair(s, all.told, a, b);
                for (Clause c : rules.get(rule)) {
                    if (c.test.apply(p)) {
                        v = c.sum.applyAsLong(p);
                        break;
                    }
                }
            }
            if (v > most) {
                most = v;
                found = b;
            }
        }
        return found;
    }

    private State run(State from, int n, int shunned) {
        State s = from.copy();
        for (int i = 0; i < n; i++) pass(s, all.force, shunned, null);
        return s;
    }

    // ---- the face

    private All all = new All();
    private final All[] images = new All[4];
    private final List<List<Clause>> rules = new ArrayList<>();
    private String tape = "";

    private boolean is(int land) {
        return land >= 0 && land < all.now.lands.size();
    }

    private static boolean in(int n, int least, int most) {
        return least <= n && n <= most;
    }

    private void keep() {
        List<State> past = new ArrayList<>(all.past);
        past.add(all.now.copy());
        if (past.size() > 20) past.remove(0);
        all.past = past;
    }

    int feed(int a, int b, int c, int d, int e) {
        if (tape.length() + 20 > 400) return -1;
        StringBuilder more = new StringBuilder(tape);
        for (int v : new int[] {a, b, c, d, e}) {
            for (int i = 3; i >= 0; i--) more.append((char) (v >> 8 * i & 255));
        }
        tape = more.toString();
        return tape.length();
    }

    int end(int n) {
        if (n < 0 || n > tape.length()) return -1;
        tape = tape.substring(0, n);
        return n;
    }

    int table() {
        text = tape;
        tape = "";
        try {
            All next = readTable();
            next.force = all.force;
            next.x = all.x;
            all = next;
            return all.now.lands.size();
        } catch (Fault f) {
            return -2 - f.number;
        }
    }

    int rule() {
        if (rules.size() == 6) return -1;
        text = tape;
        tape = "";
        try {
            rules.add(readRule());
            return rules.size() - 1;
        } catch (Fault f) {
            return -2 - f.number;
        }
    }

    int force(int rule) {
        if (rule < -1 || rule >= rules.size()) return -2;
        int was = all.force;
        all.force = rule;
        return was;
    }

    int land(int land, int what) {
        if (!is(land) || !in(what, 0, 5)) return -2;
        Land l = all.now.lands.get(land);
        int bits = 0;
        for (int b = 0; b < all.now.lands.size(); b++) if (all.now.can(land, b)) bits += 1 << b;
        return new int[] {l.men, l.sun, l.hay, l.barn, bits, l.from}[what];
    }

    int told(int land, int week) {
        if (!is(land) || !in(week, 0, 60)) return -1;
        return (int) all.told.stream().filter(t -> t.land == land && t.week == week).count();
    }

    int week() {
        if (!all.there || all.now.week == 999) return -1;
        keep();
        return pass(all.now, all.force, 0, null);
    }

    int swap(int land, int other) {
        if (!is(land) || !is(other) || !all.now.can(land, other)) return -1;
        keep();
        all.now.buys(land, other);
        return all.now.lands.get(land).men;
    }

    int give(int land, int other, int men) {
        if (!is(land) || !is(other) || land == other || !in(men, 1, 99)) return -1;
        if (all.now.lands.get(land).men < men) return -1;
        keep();
        all.now.lands.get(land).men -= men;
        all.now.lands.get(other).men = Math.min(999, all.now.lands.get(other).men + men);
        return all.now.lands.get(land).men;
    }

    int fight(int one, int other) {
        if (!is(one) || !is(other) || one == other) return -1;
        int a = all.now.lands.get(one).men, b = all.now.lands.get(other).men;
        if (a == 0 || b == 0) return -1;
        keep();
        int fewer = Math.min(a, b);
        int lost = fewer / 2 + fewer % 2;
        all.now.lands.get(one).men = a - lost;
        all.now.lands.get(other).men = b - lost;
        return lost;
    }

    int set(int rate) {
        if (!all.there || !in(rate, 1, 9) || rate == all.now.rate) return -1;
        keep();
        int was = all.now.rate;
        all.now.rate = rate;
        return was;
    }

    int undo() {
        if (all.past.isEmpty()) return -2;
        all.now = all.past.get(all.past.size() - 1).copy();
        all.past = List.copyOf(all.past.subList(0, all.past.size() - 1));
        return all.past.size();
    }

    int ahead(int land, int n, int what) {
        if (!is(land) || !in(n, 0, 100) || !in(what, 0, 3)) return -1;
        Land l = run(all.now, n, 0).lands.get(land);
        return new int[] {l.men, l.sun, l.hay, l.barn}[what];
    }

    int bare(int land) {
        if (!is(land)) return -1;
        for (int n = 0; n < 100; n++) {
            if (run(all.now, n, 0).lands.get(land).hay == 0) return all.now.week + n;
        }
        return -2;
    }

    /** All rows of from whom to buy, in their order: the number's digits are the row. */
    int row(int land, int n, int what) {
        if (!is(land) || !in(n, 1, 4) || !in(what, 0, 4)) return -3;
        if (what > n) return -2;
        int kinds = all.now.lands.size() + 1;
        int full = -1;
        int[] best = null;
        for (int code = 0; code < Math.pow(kinds, n); code++) {
            int[] row = new int[n];
            for (int i = n - 1, left = code; i >= 0; i--, left /= kinds) row[i] = left % kinds - 1;
            State s = all.now.copy();
            try {
                for (int i = 0; i < n; i++) {
                    int from = row[i];
                    pass(s, all.force, 0, (t, a) -> a == land ? from : null);
                }
            } catch (Impossible e) {
                continue;
            }
            if (s.lands.get(land).barn > full) {
                full = s.lands.get(land).barn;
                best = row;
            }
        }
        return what == 0 ? full : best[what - 1];
    }

    int best(int n, int what) {
        if (!all.there || !in(n, 1, 60) || !in(what, 0, 1)) return -1;
        int[] full = new int[10];
        for (int rate = 1; rate <= 9; rate++) {
            State s = all.now.copy();
            s.rate = rate;
            full[rate] = run(s, n, 0).barns();
        }
        int best = 1;
        for (int rate = 2; rate <= 9; rate++) if (full[rate] > full[best]) best = rate;
        return what == 0 ? best : full[best];
    }

    int quiet() {
        if (!all.there) return -1;
        State s = all.now.copy();
        List<Integer> buys = new ArrayList<>();
        for (int i = 0; i < 64; i++) buys.add(pass(s, all.force, 0, null));
        for (int i = 0; i < 60; i++) {
            if (buys.subList(i, i + 5).stream().allMatch(b -> b == 0)) return all.now.week + i;
        }
        return -2;
    }

    int worth(int land, int men, int n) {
        if (!is(land) || !in(men, 1, 99) || !in(n, 1, 60)) return -100000;
        State more = all.now.copy();
        more.lands.get(land).men = Math.min(999, more.lands.get(land).men + men);
        return run(more, n, 0).lands.get(land).barn - run(all.now, n, 0).lands.get(land).barn;
    }

    int need(int land, int barn, int n) {
        if (!is(land) || !in(barn, 1, 9999) || !in(n, 1, 60)) return -1;
        for (int sun = 0; sun <= 20; sun++) {
            State more = all.now.copy();
            more.lands.get(land).sun = Math.min(99, more.lands.get(land).sun + sun);
            if (run(more, n, 0).lands.get(land).barn >= barn) return sun;
        }
        return -2;
    }

    int game(int one, int other, int n, int what) {
        if (!is(one) || !is(other) || one == other || !in(n, 1, 4) || !in(what, 0, 1)) return -100000;
        int without = played(all.now, 0, n, one, other, false);
        if (!all.now.can(one, other)) return what == 0 ? without : 0;
        int with = played(all.now, 0, n, one, other, true);
        return what == 0 ? Math.max(with, without) : with > without ? 1 : 0;
    }

    private int played(State from, int turn, int n, int one, int other, boolean buys) {
        State s = from.copy();
        if (buys) s.buys(turn % 2 == 0 ? one : other, turn % 2 == 0 ? other : one);
        pass(s, all.force, 0, (t, a) -> a == one || a == other ? -1 : null);
        if (turn + 1 == n) return s.lands.get(one).barn - s.lands.get(other).barn;
        boolean firsts = (turn + 1) % 2 == 0;
        int without = played(s, turn + 1, n, one, other, false);
        if (!s.can(firsts ? one : other, firsts ? other : one)) return without;
        int with = played(s, turn + 1, n, one, other, true);
        return firsts ? Math.max(with, without) : Math.min(with, without);
    }

    int shun(int n, int what) {
        if (!all.there || !in(n, 1, 60) || !in(what, 0, 2)) return -1;
        int sets = 1 << all.now.lands.size();
        int[] full = new int[sets];
        for (int set = 0; set < sets; set++) full[set] = run(all.now, n, set).barns();
        int best = 0;
        for (int set = 1; set < sets; set++) {
            int fewer = Integer.compare(Integer.bitCount(set), Integer.bitCount(best));
            if (full[set] > full[best] || full[set] == full[best] && fewer < 0) best = set;
        }
        return new int[] {Integer.bitCount(best), best, full[best]}[what];
    }

    int mother(int n, int what) {
        if (!all.there || !in(n, 1, 60) || !in(what, 0, 1)) return -2;
        int who = -1;
        int full = run(all.now, n, 0).barns();
        for (int land = 0; land < all.now.lands.size(); land++) {
            State s = all.now.copy();
            s.lands.get(land).sun = Math.min(99, s.lands.get(land).sun + 1);
            int barns = run(s, n, 0).barns();
            if (barns > full) {
                full = barns;
                who = land;
            }
        }
        return what == 0 ? who : full;
    }

    int parts(int barley, int land) {
        if (!is(land) || !in(barley, 0, 9999)) return -1;
        int sum = all.now.barns();
        if (sum == 0) return 0;
        int lands = all.now.lands.size();
        int[] part = new int[lands];
        int[] lost = new int[lands];
        int left = barley;
        for (int i = 0; i < lands; i++) {
            part[i] = barley * all.now.lands.get(i).barn / sum;
            lost[i] = barley * all.now.lands.get(i).barn % sum;
            left -= part[i];
        }
        for (; left > 0; left--) {
            int most = 0;
            for (int i = 1; i < lands; i++) if (lost[i] > lost[most]) most = i;
            part[most]++;
            lost[most] = -1;
        }
        return part[land];
    }

    int note(int n, int land, int other) {
        if (n == -1) {
            all.notes = List.of();
            return 0;
        }
        if (!in(n, 0, 60) || !is(land) || other != -1 && !is(other) || land == other) return -2;
        if (all.notes.size() == 10) return -2;
        List<Note> more = new ArrayList<>(all.notes);
        more.add(new Note(n, land, other));
        all.notes = more;
        return more.size();
    }

    /** From whom all LANDS bought by a RULE in each of the WEEKS 0 to 60. */
    private List<int[]> history(int rule) {
        List<int[]> out = new ArrayList<>();
        State s = all.first.copy();
        for (int w = 0; w <= 60; w++) {
            pass(s, rule, 0, null);
            out.add(s.lands.stream().mapToInt(l -> l.from).toArray());
        }
        return out;
    }

    private List<Integer> so() {
        List<Integer> out = new ArrayList<>();
        for (int rule = -1; rule < rules.size(); rule++) {
            List<int[]> h = history(rule);
            if (all.notes.stream().allMatch(n -> h.get(n.week)[n.land] == n.other)) out.add(rule);
        }
        return out;
    }

    int ruled(int what) {
        if (!all.there || !in(what, 0, 1)) return -3;
        List<Integer> so = so();
        return what == 0 ? so.size() : so.isEmpty() ? -2 : so.get(0);
    }

    int look(int n, int what) {
        if (!all.there || !in(n, 0, 60) || !in(what, 0, 1)) return -1;
        List<Integer> so = so();
        if (so.isEmpty() || all.now.lands.isEmpty()) return -2;
        int fewest = 99;
        int who = -1;
        for (int land = 0; land < all.now.lands.size(); land++) {
            int[] tally = new int[7];
            int most = 0;
            for (int rule : so) most = Math.max(most, ++tally[history(rule).get(n)[land] + 1]);
            if (most < fewest) {
                fewest = most;
                who = land;
            }
        }
        return what == 0 ? who : fewest;
    }

    int seed(int x) {
        if (x < 0) return -1;
        int was = (int) all.x;
        all.x = x;
        return was;
    }

    int summers(int m, int n, int p, int what) {
        if (!all.there || !in(m, 1, 10) || !in(n, 1, 60) || !in(p, 0, 100) || !in(what, 0, 1)) return -1;
        long x = all.x;
        int full = 0;
        int buys = 0;
        for (int i = 0; i < m; i++) {
            State s = all.now.copy();
            for (int j = 0; j < n; j++) {
                x = (x * 1103515245 + 12345) % 2147483648L;
                if (x / 65536 % 100 < p && !s.lands.isEmpty()) {
                    x = (x * 1103515245 + 12345) % 2147483648L;
                    Land l = s.lands.get((int) (x / 65536 % s.lands.size()));
                    l.sun = Math.min(99, l.sun + 1);
                }
                buys += pass(s, all.force, 0, null);
            }
            full += s.barns();
        }
        return what == 0 ? full : buys;
    }

    int count(int what) {
        if (!in(what, 0, 14)) return -1;
        List<Land> l = all.now.lands;
        return new int[] {all.now.rate, all.stale, l.size(), rules.size(), all.force, all.now.week,
            l.stream().mapToInt(a -> a.men).sum(), l.stream().mapToInt(a -> a.sun).sum(),
            l.stream().mapToInt(a -> a.hay).sum(), all.now.barns(), all.now.bought, all.notes.size(),
            all.past.size(), (int) all.x, tape.length()}[what];
    }

    int image(int k) {
        if (!in(k, 0, 3)) return -1;
        images[k] = all.copy();
        return all.now.week;
    }

    int back(int k) {
        if (!in(k, 0, 3) || images[k] == null) return -1;
        all = images[k].copy();
        return all.now.week;
    }
}
