import java.util.ArrayList;
import java.util.HashMap;
import java.util.HashSet;
import java.util.List;
import java.util.Map;
import java.util.NoSuchElementException;
import java.util.Set;

/**
 * The document told a second time, as literally as it goes and without care for speed or room,
 * so that ModelTest can hold CuckooMayor against it. It shares no code and few ways with it.
 */
final class Model {
    private static final int NONE = -1;

    interface Expr { int of(Map<String, Integer> values); }

    static final class Fault extends RuntimeException {
        private static final long serialVersionUID = 1L;
        final int kind;
        final int place;
        Fault(int kind, int place) { super(null, null, false, false); this.kind = kind; this.place = place; }
    }

    static final class Token {
        final char type; // w word, n number, s sign, x none, e end
        final String text;
        final int place;
        Token(char type, String text, int place) { this.type = type; this.text = text; this.place = place; }
        boolean is(String what) { return (type == 'w' || type == 's') && text.equals(what); }
    }

    static final class Motion {
        String kind; int call; int cost; int joy; Integer follows; boolean passed;
        Motion copy() {
            Motion m = new Motion();
            m.kind = kind; m.call = call; m.cost = cost; m.joy = joy; m.follows = follows; m.passed = passed;
            return m;
        }
        int pleasing() { return kind.equals("feast") ? joy + joy : joy; }
        int kindNumber() { return List.of("law", "feast", "toll").indexOf(kind); }
    }

    static final class World {
        int oil = 20, weight = 24, treasury = 100, hour = 0, spider = 0, joy = 0;
        List<int[]> aldermen = new ArrayList<>(); // lean, deaf
        List<Motion> motions = new ArrayList<>();
        Expr says, votes;
        World copy() {
            World w = new World();
            w.oil = oil; w.weight = weight; w.treasury = treasury; w.hour = hour; w.spider = spider; w.joy = joy;
            for (int[] a : aldermen) w.aldermen.add(a.clone());
            for (Motion m : motions) w.motions.add(m.copy());
            w.says = says; w.votes = votes;
            return w;
        }
        int clockHour() { int h = hour; while (h >= 12) h -= 12; return h == 0 ? 12 : h; }
        int passed() { int n = 0; for (Motion m : motions) if (m.passed) n++; return n; }
        int passedBits() { int b = 0; for (int i = 0; i < motions.size(); i++) if (motions.get(i).passed) b += 1 << i; return b; }
        boolean isFor(int alderman, Motion m, int said, int lean) {
            if (votes == null) return lean + m.joy > 0;
            Map<String, Integer> v = new HashMap<>();
            int heard = said - aldermen.get(alderman)[1];
            v.put("heard", heard < 0 ? 0 : heard);
            v.put("lean", lean);
            v.put("cost", m.cost);
            v.put("joy", m.joy);
            v.put("kind", m.kindNumber());
            v.put("passed", passed());
            return votes.of(v) > 0;
        }
        List<Boolean> vote(Motion m, int said) {
            List<Boolean> list = new ArrayList<>();
            for (int a = 0; a < aldermen.size(); a++) list.add(isFor(a, m, said, aldermen.get(a)[0]));
            return list;
        }
        boolean passes(Motion m, int said) {
            return more(vote(m, said)) && (m.kind.equals("toll") || m.cost <= treasury);
        }
        boolean lastWasHalf;
        /** What is said; null for nothing. */
        Integer goOn(int never) {
            Integer said = null;
            lastWasHalf = false;
            if (weight != 0 && spider == 0) {
                int full = clockHour();
                if (says != null) {
                    Map<String, Integer> v = new HashMap<>();
                    v.put("hour", clockHour());
                    v.put("oil", oil);
                    v.put("weight", weight);
                    v.put("day", hour / 24);
                    full = says.of(v);
                }
                if (full < 0) full = 0;
                if (full > 24) full = 24;
                lastWasHalf = oil == 0;
                said = oil == 0 ? full / 2 : full;
                if (oil > 0) oil = oil - 1;
                for (int i = 0; i < motions.size(); i++) {
                    Motion m = motions.get(i);
                    if (i == never || m.passed || m.call != said) continue;
                    if (m.follows != null && !motions.get(m.follows).passed) continue;
                    if (!passes(m, said)) continue;
                    m.passed = true;
                    if (m.kind.equals("toll")) { treasury += m.cost; if (treasury > 9999) treasury = 9999; } else treasury -= m.cost;
                    joy += m.pleasing();
                }
            }
            if (weight > 0) weight--;
            if (spider > 0) spider--;
            hour++;
            return said;
        }
    }

    static boolean more(List<Boolean> vote) {
        int f = 0;
        int n = 0;
        for (boolean b : vote) if (b) f++; else n++;
        return f > n;
    }

    /** All that an image keeps. */
    static final class Keeping {
        World world = new World();
        List<World> acts = new ArrayList<>();
        List<int[]> seen = new ArrayList<>();
        int[] status = new int[3];
        Keeping copy() {
            Keeping k = new Keeping();
            k.world = world.copy();
            for (World w : acts) k.acts.add(w.copy());
            k.seen.addAll(seen);
            k.status = status.clone();
            return k;
        }
    }

    private final StringBuilder tape = new StringBuilder();
    private int faultPlace = NONE;
    private Keeping now = new Keeping();
    private Keeping image = null;

    // ---- texts

    private List<Token> tokens;
    private int at;

    private static List<Token> cut(String text) {
        List<Token> list = new ArrayList<>();
        int i = 0;
        while (i < text.length()) {
            char c = text.charAt(i);
            int from = i;
            if (c == ' ' || c == '\n') { i++; continue; }
            if (c >= 'a' && c <= 'z') {
                while (i < text.length() && text.charAt(i) >= 'a' && text.charAt(i) <= 'z') i++;
                list.add(new Token('w', text.substring(from, i), from));
            } else if (c >= '0' && c <= '9') {
                while (i < text.length() && text.charAt(i) >= '0' && text.charAt(i) <= '9') i++;
                list.add(new Token('n', text.substring(from, i), from));
            } else {
                i++;
                list.add(new Token(";()+-*/<=".indexOf(c) >= 0 ? 's' : 'x', text.substring(from, i), from));
            }
        }
        list.add(new Token('e', "", text.length()));
        return list;
    }

    private Token peek() { return tokens.get(at); }
    private Fault bad(int kind) { return new Fault(kind, peek().place); }
    private boolean take(String what) { if (peek().is(what)) { at++; return true; } return false; }
    private void must(String what) { if (!take(what)) throw bad(1); }

    private int number(int highest) {
        Token t = peek();
        if (t.type != 'n') throw bad(1);
        if (t.text.length() > 4 || Integer.parseInt(t.text) > highest) throw bad(2);
        at++;
        return Integer.parseInt(t.text);
    }
    private int signed(int highest) { boolean minus = take("-"); int n = number(highest); return minus ? -n : n; }

    private World parse(String text) {
        tokens = cut(text);
        at = 0;
        World w = new World();
        boolean clock = false;
        while (peek().type != 'e') {
            Token t = peek();
            if (t.is("clock")) {
                if (clock) throw bad(5);
                clock = true;
                at++;
                w.oil = number(99); w.weight = number(99); w.treasury = number(999);
            } else if (t.is("alderman")) {
                if (w.aldermen.size() == 7) throw bad(2);
                at++;
                int lean = signed(9);
                w.aldermen.add(new int[] {lean, number(9)});
            } else if (t.is("law") || t.is("feast") || t.is("toll")) {
                if (w.motions.size() == 10) throw bad(2);
                at++;
                Motion m = new Motion();
                m.kind = t.text; m.call = number(24); m.cost = number(99); m.joy = signed(9);
                if (take("behind")) {
                    Token b = peek();
                    int n = number(9999);
                    if (n >= w.motions.size()) throw new Fault(3, b.place);
                    m.follows = n;
                }
                w.motions.add(m);
            } else if (t.is("says")) {
                if (w.says != null) throw bad(5);
                at++;
                w.says = expr(List.of("hour", "oil", "weight", "day"), 0);
            } else if (t.is("votes")) {
                if (w.votes != null) throw bad(5);
                at++;
                w.votes = expr(List.of("heard", "lean", "cost", "joy", "kind", "passed"), 0);
            } else {
                throw bad(1);
            }
            must(";");
        }
        return w;
    }

    private Expr expr(List<String> names, int within) {
        Token t = peek();
        if (within >= 6 && (t.type == 'n' || t.type == 'w' || t.is("("))) throw bad(2);
        Expr left = and(names, within);
        while (take("or")) {
            Expr a = left, b = and(names, within);
            left = v -> { boolean x = a.of(v) != 0; boolean y = b.of(v) != 0; return x || y ? 1 : 0; };
        }
        return left;
    }
    private Expr and(List<String> names, int within) {
        Expr left = not(names, within, 0);
        while (take("and")) {
            Expr a = left, b = not(names, within, 0);
            left = v -> { boolean x = a.of(v) != 0; boolean y = b.of(v) != 0; return x && y ? 1 : 0; };
        }
        return left;
    }
    private Expr not(List<String> names, int within, int nots) {
        if (peek().is("not")) {
            if (nots == 6) throw bad(2);
            at++;
            Expr a = not(names, within, nots + 1);
            return v -> a.of(v) == 0 ? 1 : 0;
        }
        Expr a = sum(names, within);
        if (take("<")) { Expr b = sum(names, within); return v -> a.of(v) < b.of(v) ? 1 : 0; }
        if (take("=")) { Expr b = sum(names, within); return v -> a.of(v) == b.of(v) ? 1 : 0; }
        return a;
    }
    private Expr sum(List<String> names, int within) {
        Expr left = product(names, within);
        while (true) {
            Expr a = left;
            if (take("+")) { Expr b = product(names, within); left = v -> a.of(v) + b.of(v); }
            else if (take("-")) { Expr b = product(names, within); left = v -> a.of(v) - b.of(v); }
            else return left;
        }
    }
    private Expr product(List<String> names, int within) {
        Expr left = part(names, within);
        while (true) {
            Expr a = left;
            if (take("*")) { Expr b = part(names, within); left = v -> a.of(v) * b.of(v); }
            else if (take("/")) { Expr b = part(names, within); left = v -> { int y = b.of(v); return y == 0 ? 0 : (int) ((long) a.of(v) / y); }; }
            else return left;
        }
    }
    private Expr part(List<String> names, int within) {
        Token t = peek();
        if (t.type == 'n') { int n = number(9999); return v -> n; }
        if (t.type == 'w') {
            if (!names.contains(t.text)) throw bad(3);
            at++;
            return v -> v.get(t.text);
        }
        must("(");
        Expr e = expr(names, within + 1);
        must(")");
        return e;
    }

    // ---- calls

    long answer(String name, int... a) {
        World w = now.world;
        switch (name) {
            case "feed": return feed(a);
            case "borough": return borough(a[0]);
            case "fault": return faultPlace;
            case "count": return count(a[0]);
            case "alderman": return alderman(a[0], a[1]);
            case "motion": return motion(a[0], a[1]);
            case "hours": case "wind": case "oil": case "spider": case "bribe": case "move": return act(name, a);
            case "undo":
                if (now.acts.isEmpty()) return NONE;
                now.world = now.acts.remove(now.acts.size() - 1);
                return now.acts.size();
            case "saying": within(a[0], 1, 96); return number(said(w, a[0]).get(a[0] - 1));
            case "when": {
                theMotion(a[0]);
                World t = w.copy();
                for (int h = 0; h <= 96; h++) { if (t.motions.get(a[0]).passed) return h; t.goOn(-1); }
                return NONE;
            }
            case "then": what(a[1], 2); within(a[0], 0, 96); return a[1] == 0 ? after(a[0], -1).treasury : after(a[0], -1).joy;
            case "fails": {
                what(a[0], 2);
                World t = w.copy();
                for (int h = 1; h <= 96; h++) { Integer s = t.goOn(-1); if (a[0] == 0 ? s == null : t.lastWasHalf) return h; }
                return NONE;
            }
            case "calls": {
                within(a[0], 0, 24); within(a[1], 0, 96);
                int n = 0;
                for (Integer s : said(w, a[1])) if (s != null && s == a[0]) n++;
                return n;
            }
            case "toWind": {
                within(a[0], 1, 96);
                for (int more = 0; ; more++) {
                    World t = w.copy();
                    t.spider = 0;
                    t.weight += more;
                    if (!said(t, a[0]).contains(null)) return more;
                }
            }
            case "moving": return moving(a[0], a[1]);
            case "votes": theMotion(a[0]); within(a[1], 0, 24); return bits(w.vote(w.motions.get(a[0]), a[1]));
            case "bought": {
                theMotion(a[0]); within(a[1], 0, 24);
                if (w.aldermen.isEmpty()) return 0;
                List<Boolean> vote = w.vote(w.motions.get(a[0]), a[1]);
                int n = 0;
                while (!more(vote)) { vote.set(vote.indexOf(false), true); n++; }
                return n;
            }
            case "order": return order(a[0]);
            case "bribery": return bribery(a[0], a[1]);
            case "needs": {
                theMotion(a[0]);
                int b = 0;
                for (Integer f = w.motions.get(a[0]).follows; f != null; f = w.motions.get(f).follows) if (!w.motions.get(f).passed) b |= 1 << f;
                return b;
            }
            case "allies": {
                theAlderman(a[0]); theAlderman(a[1]);
                int n = 0;
                for (Motion m : w.motions) if (!m.passed) { List<Boolean> vote = w.vote(m, m.call); if (vote.get(a[0]).equals(vote.get(a[1]))) n++; }
                return n;
            }
            case "passing": within(a[0], 0, 96); return after(a[0], -1).passedBits();
            case "toOil": {
                within(a[0], 1, 96);
                for (int more = 0; w.oil + more <= 99; more++) {
                    World t = w.copy();
                    t.oil += more;
                    boolean half = false;
                    for (int i = 0; i < a[0]; i++) { t.goOn(-1); half |= t.lastWasHalf; }
                    if (!half) return more;
                }
                return NONE;
            }
            case "hush": return hush(a[0], a[1]);
            case "word": {
                within(a[0], 0, 96);
                List<Integer> list = said(w, a[0]);
                int best = NONE;
                int most = 0;
                for (int n = 24; n >= 0; n--) {
                    int times = 0;
                    for (Integer s : list) if (s != null && s == n) times++;
                    if (times > 0 && times >= most) { most = times; best = n; }
                }
                return best;
            }
            case "heldUp": {
                theMotion(a[0]);
                int b = 0;
                World with = after(48, -1), without = after(48, a[0]);
                for (int i = 0; i < w.motions.size(); i++) if (i != a[0] && !with.motions.get(i).passed && without.motions.get(i).passed) b |= 1 << i;
                return b;
            }
            case "idle": {
                List<Integer> list = said(w, 96);
                int b = 0;
                for (int i = 0; i < w.motions.size(); i++) if (!w.motions.get(i).passed && !list.contains(w.motions.get(i).call)) b |= 1 << i;
                return b;
            }
            case "see":
                if (now.seen.size() == 8 || a[0] < 1 || a[0] > 48 || a[1] < -1 || a[1] > 24) { now.status[2]++; return NONE; }
                now.seen.add(a.clone());
                return now.seen.size();
            case "fouled": {
                what(a[0], 3);
                List<Integer> oils = oils();
                if (a[0] == 0) return oils.size();
                if (a[0] == 1) return oils.isEmpty() ? NONE : oils.get(0);
                return fits(w.oil) ? 1 : 0;
            }
            case "listen": {
                what(a[0], 2);
                int best = NONE;
                int most = 0;
                for (int k = 1; k <= 48; k++) {
                    Set<Integer> unlike = new HashSet<>();
                    for (int oil : oils()) unlike.add(saidWith(oil, k));
                    if (unlike.size() > most) { most = unlike.size(); best = k; }
                }
                return a[0] == 0 ? best : most;
            }
            case "forget": now.seen.clear(); return 0;
            case "game": return game(a[0], a[1], a[2]);
            case "years": return years(a[0], a[1], a[2]);
            case "image": image = now.copy(); return 0;
            case "restore":
                if (image == null) return 0;
                now = image.copy();
                return 1;
            default: throw new AssertionError(name);
        }
    }

    private static long number(Integer said) { return said == null ? NONE : said; }
    private static void what(int what, int many) { if (what < 0 || what >= many) throw new NoSuchElementException(); }
    private static void within(int n, int low, int high) { if (n < low || n > high) throw new IllegalArgumentException(); }
    private void theMotion(int m) { what(m, now.world.motions.size()); }
    private void theAlderman(int a) { what(a, now.world.aldermen.size()); }

    private static int bits(List<Boolean> list) {
        int b = 0;
        for (int i = 0; i < list.size(); i++) if (list.get(i)) b |= 1 << i;
        return b;
    }

    private static List<Integer> said(World from, int hours) {
        World t = from.copy();
        List<Integer> list = new ArrayList<>();
        for (int i = 0; i < hours; i++) list.add(t.goOn(-1));
        return list;
    }

    private World after(int hours, int never) {
        World t = now.world.copy();
        for (int i = 0; i < hours; i++) t.goOn(never);
        return t;
    }

    private long feed(int[] a) {
        if (tape.length() + 20 > 700) return NONE;
        for (int n : a) tape.append((char) (n >>> 24)).append((char) (n >>> 16 & 255)).append((char) (n >>> 8 & 255)).append((char) (n & 255));
        return tape.length();
    }

    private long borough(int n) {
        if (n < 0 || n > tape.length()) throw new IllegalArgumentException();
        String text = tape.substring(0, n);
        tape.setLength(0);
        try {
            World w = parse(text);
            int[] status = now.status;
            now = new Keeping();
            now.world = w;
            now.status = status;
            image = null;
            faultPlace = NONE;
            return 0;
        } catch (Fault f) {
            now.status[0]++;
            faultPlace = f.place;
            return f.kind;
        }
    }

    private long count(int what) {
        World w = now.world;
        int blocked = 0;
        for (int i = 0; i < w.motions.size(); i++) {
            Motion m = w.motions.get(i);
            if (!m.passed && m.follows != null && !w.motions.get(m.follows).passed) blocked |= 1 << i;
        }
        int[] all = {w.aldermen.size(), w.motions.size(), w.hour, w.oil, w.weight, w.spider, w.treasury, w.joy, w.passedBits(),
            blocked, now.acts.size(), now.seen.size(), tape.length(), now.status[0], now.status[1], now.status[2]};
        what(what, all.length);
        return all[what];
    }

    private long alderman(int alderman, int what) {
        theAlderman(alderman);
        what(what, 3);
        if (what < 2) return now.world.aldermen.get(alderman)[what];
        int b = 0;
        for (int i = 0; i < now.world.motions.size(); i++) {
            Motion m = now.world.motions.get(i);
            if (m.passed) continue;
            List<Boolean> vote = now.world.vote(m, m.call);
            boolean was = more(vote);
            vote.set(alderman, !vote.get(alderman));
            if (more(vote) != was) b |= 1 << i;
        }
        return b;
    }

    private long motion(int motion, int what) {
        theMotion(motion);
        what(what, 7);
        Motion m = now.world.motions.get(motion);
        int chain = 0;
        for (Motion x = m; x.follows != null; x = now.world.motions.get(x.follows)) chain++;
        return new int[] {m.kindNumber(), m.call, m.cost, m.joy, m.follows == null ? NONE : m.follows, m.passed ? 1 : 0, chain}[what];
    }

    private long act(String name, int[] a) {
        World w = now.world;
        if (name.equals("bribe")) theAlderman(a[0]);
        if (name.equals("move")) theMotion(a[0]);
        boolean may;
        switch (name) {
            case "hours": may = a[0] >= 1 && a[0] <= 48 && w.hour + a[0] <= 9999; break;
            case "spider": may = a[0] >= 1 && a[0] <= 24; break;
            case "bribe": may = a[1] >= 1 && a[1] <= 9 && a[1] <= w.treasury; break;
            case "move": may = !w.motions.get(a[0]).passed && a[1] >= 0 && a[1] <= 24; break;
            default: may = a[0] >= 1 && a[0] <= 99; break;
        }
        if (!may) { now.status[1]++; return name.equals("bribe") ? -10 : NONE; }
        now.acts.add(w.copy());
        while (now.acts.size() > 40) now.acts.remove(0);
        switch (name) {
            case "hours": for (int i = 0; i < a[0]; i++) w.goOn(-1); return w.hour;
            case "wind": w.weight += a[0]; if (w.weight > 99) w.weight = 99; return w.weight;
            case "oil": w.oil += a[0]; if (w.oil > 99) w.oil = 99; return w.oil;
            case "spider": { int left = w.spider; w.spider = a[0]; return left; }
            case "bribe": {
                int[] alderman = w.aldermen.get(a[0]);
                w.treasury -= a[1];
                alderman[0] += a[1];
                if (alderman[0] > 9) alderman[0] = 9;
                return alderman[0];
            }
            default: { int was = w.motions.get(a[0]).call; w.motions.get(a[0]).call = a[1]; return was; }
        }
    }

    private long moving(int motion, int what) {
        theMotion(motion);
        what(what, 2);
        if (now.world.motions.get(motion).passed) return NONE;
        for (int h = 1; h <= 48; h++) {
            for (int call = 0; call <= 24; call++) {
                World t = now.world.copy();
                t.motions.get(motion).call = call;
                for (int i = 0; i < h; i++) t.goOn(-1);
                if (t.motions.get(motion).passed) return what == 0 ? call : h;
            }
        }
        return NONE;
    }

    private long order(int what) {
        what(what, 2);
        World w = now.world;
        int best = 0, bestJoy = 0;
        for (int set = 0; set < 1 << w.motions.size(); set++) {
            int joy = 0, cost = 0;
            boolean may = true;
            for (int i = 0; i < w.motions.size(); i++) {
                if ((set & 1 << i) == 0) continue;
                Motion m = w.motions.get(i);
                joy += m.pleasing();
                cost += m.kind.equals("toll") ? -m.cost : m.cost;
                may &= !m.passed;
                may &= m.follows == null || w.motions.get(m.follows).passed || (set & 1 << m.follows) != 0;
            }
            if (!may || cost > w.treasury) continue;
            int few = Integer.compare(Integer.bitCount(best), Integer.bitCount(set));
            if (joy > bestJoy || joy == bestJoy && (few > 0 || few == 0 && set < best)) { best = set; bestJoy = joy; }
        }
        return what == 0 ? bestJoy : best;
    }

    private long bribery(int motion, int said) {
        theMotion(motion);
        within(said, 0, 24);
        World w = now.world;
        Motion m = w.motions.get(motion);
        int n = w.aldermen.size();
        int best = NONE;
        for (int set = 0; set < 1 << n; set++) {
            if (2 * Integer.bitCount(set) <= n) continue;
            int sum = 0;
            for (int a = 0; a < n && sum >= 0; a++) {
                if ((set & 1 << a) == 0) continue;
                int lean = w.aldermen.get(a)[0];
                while (lean <= 9 && !w.isFor(a, m, said, lean)) lean++;
                sum = lean > 9 ? -1 : sum + lean - w.aldermen.get(a)[0];
            }
            if (sum >= 0 && (best == NONE || sum < best)) best = sum;
        }
        return best;
    }

    private long hush(int hours, int what) {
        what(what, 2);
        within(hours, 0, 96);
        List<Integer> list = said(now.world, hours);
        for (int length = hours; length >= 1; length--) {
            for (int from = 1; from + length - 1 <= hours; from++) {
                boolean quiet = true;
                for (int i = from; i < from + length; i++) quiet &= list.get(i - 1) == null;
                if (quiet) return what == 0 ? length : from;
            }
        }
        return what == 0 ? 0 : NONE;
    }

    private Integer saidWith(int oil, int k) { return saidWith(oil).get(k - 1); }

    private List<Integer> saidWith(int oil) {
        World t = now.world.copy();
        t.motions.clear();
        t.oil = oil;
        return said(t, 48);
    }

    private boolean fits(int oil) {
        List<Integer> list = saidWith(oil);
        for (int[] s : now.seen) if (number(list.get(s[0] - 1)) != s[1]) return false;
        return true;
    }

    private List<Integer> oils() {
        List<Integer> list = new ArrayList<>();
        for (int oil = 0; oil <= 99; oil++) if (oil != now.world.oil && fits(oil)) list.add(oil);
        return list;
    }

    private long game(int motion, int other, int what) {
        theMotion(motion);
        theMotion(other);
        what(what, 2);
        World w = now.world;
        Motion x = w.motions.get(motion), y = w.motions.get(other);
        if (motion == other || x.passed || y.passed) throw new IllegalArgumentException();
        Integer said = said(w, 1).get(0);
        if (said == null) throw new IllegalArgumentException();
        int[][] gx = new int[2][2], gy = new int[2][2]; // [own choice][the other's]
        for (int b = 0; b < 2; b++) {
            gx[0][b] = w.passes(x, said) ? x.joy * (b + 1) : -1;
            gy[0][b] = w.passes(y, said) ? y.joy * (b + 1) : -1;
        }
        int many = 0, first = NONE;
        for (int a = 1; a >= 0; a--) {
            for (int b = 1; b >= 0; b--) {
                if (gx[1 - a][b] > gx[a][b] || gy[1 - b][a] > gy[b][a]) continue;
                many++;
                first = a * 10 + b;
            }
        }
        return what == 0 ? many : first;
    }

    private long years(int seed, int n, int what) {
        what(what, 3);
        within(n, 0, 96);
        World t = now.world.copy();
        int silent = 0;
        long s = seed;
        for (int i = 0; i < n; i++) {
            s = (int) (s * 1103515245L + 12345L);
            long draw = (s & 0xffffffffL) / 65536 % 32768 % 12;
            if (draw == 0) t.weight = 24;
            if (draw == 1) t.oil = t.oil + 9 > 99 ? 99 : t.oil + 9;
            if (draw == 2) {
                s = (int) (s * 1103515245L + 12345L);
                t.spider = (int) ((s & 0xffffffffL) / 65536 % 32768 % 5) + 1;
            }
            if (t.goOn(-1) == null) silent++;
        }
        return what == 0 ? t.passed() : what == 1 ? t.joy : silent;
    }
}
