import java.util.ArrayList;
import java.util.Arrays;
import java.util.HashMap;
import java.util.List;
import java.util.Map;

/** The document done a second time, slowly and by other means: trees, exceptions, all rows tried. */
final class Model {
    static final class Fault extends RuntimeException {
        final int kind;
        final int place;

        Fault(int kind, int place) {
            super(null, null, false, false);
            this.kind = kind;
            this.place = place;
        }
    }

    /** What a SUM is asked about. */
    static final class Env {
        int[] w;
        int dread;
        int brave;
        int room;
    }

    interface Sum {
        long of(Env e);
    }

    static final class Plot {
        final List<String> dreads = new ArrayList<>();
        final List<String> dreamers = new ArrayList<>();
        final List<String> guides = new ArrayList<>();
        final List<Integer> brave = new ArrayList<>();
        final List<Integer> of = new ArrayList<>();
        final int[][] fears = new int[4][6];
        final Sum[] sums = new Sum[3];
        int home;
        int laugh;
        int spite;
    }

    static final class Token {
        String word;
        int from;
        int to;
        boolean glued;
        boolean letters;
        boolean digits;
    }

    static final List<String> OWN = List.of("dread", "dreamer", "brave", "fears", "guide", "of", "meet", "shun",
        "byday", "home", "laugh", "spite", "weigh", "worst", "sum", "many", "number", "min", "max");

    static final class Parser {
        final String text;
        final boolean question;
        int at = 0;

        Parser(String text, boolean question) {
            this.text = text;
            this.question = question;
        }

        Token peek() {
            int i = at;
            while (i < text.length() && " \n".indexOf(text.charAt(i)) >= 0) {
                i++;
            }
            Token t = new Token();
            t.from = i;
            t.to = i;
            if (i < text.length()) {
                char c = text.charAt(i);
                t.to = i + 1;
                t.letters = c >= 'a' && c <= 'z';
                t.digits = c >= '0' && c <= '9';
                while (t.to < text.length() && (t.letters && text.charAt(t.to) >= 'a' && text.charAt(t.to) <= 'z'
                    || t.digits && text.charAt(t.to) >= '0' && text.charAt(t.to) <= '9')) {
                    t.to++;
                }
                t.glued = (t.letters || t.digits) && i > 0 && Character.isLetterOrDigit(text.charAt(i - 1))
                    && text.charAt(i - 1) < 128;
                if (i > 0 && text.charAt(i - 1) >= 'A' && text.charAt(i - 1) <= 'Z') {
                    t.glued = false;
                }
            }
            t.word = text.substring(t.from, t.to);
            return t;
        }

        boolean next(String word) {
            Token t = peek();
            return t.word.equals(word) && !t.glued;
        }

        boolean take(String word) {
            if (!next(word)) {
                return false;
            }
            at = peek().to;
            return true;
        }

        void must(String word) {
            if (!take(word)) {
                throw new Fault(1, peek().from);
            }
        }

        int number(int most) {
            Token t = peek();
            if (!t.digits || t.glued) {
                throw new Fault(1, t.from);
            }
            if (t.word.length() > 4) {
                throw new Fault(1, t.from + 4);
            }
            int n = Integer.parseInt(t.word);
            if (n > most) {
                throw new Fault(2, t.from);
            }
            at = t.to;
            return n;
        }

        Token name() {
            Token t = peek();
            if (!t.letters || t.glued || OWN.contains(t.word)) {
                throw new Fault(1, t.from);
            }
            if (t.word.length() > 6) {
                throw new Fault(1, t.from + 6);
            }
            at = t.to;
            return t;
        }

        void open(int depth) {
            if (depth >= 6) {
                throw new Fault(4, peek().from);
            }
        }

        static long hold(long n) {
            return n > 1000000 ? 1000000 : n < -1000000 ? -1000000 : n;
        }

        Sum sum(int depth) {
            Sum left = product(depth);
            while (true) {
                Sum l = left;
                if (take("+")) {
                    Sum r = product(depth);
                    left = e -> hold(l.of(e) + r.of(e));
                } else if (take("-")) {
                    Sum r = product(depth);
                    left = e -> hold(l.of(e) - r.of(e));
                } else {
                    return l;
                }
            }
        }

        Sum product(int depth) {
            Sum left = part(depth);
            while (true) {
                Sum l = left;
                if (take("*")) {
                    Sum r = part(depth);
                    left = e -> hold(l.of(e) * r.of(e));
                } else if (take("/")) {
                    Sum r = part(depth);
                    left = e -> {
                        long b = r.of(e);
                        return b == 0 ? 0 : (long) Math.floor((double) l.of(e) / b);
                    };
                } else {
                    return l;
                }
            }
        }

        Sum part(int depth) {
            Token t = peek();
            if (t.digits) {
                int n = number(9999);
                return e -> n;
            }
            if (t.word.equals("(")) {
                open(depth);
                at = t.to;
                Sum inner = sum(depth + 1);
                must(")");
                return inner;
            }
            if (t.glued) {
                throw new Fault(1, t.from);
            }
            if (t.word.equals("min") || t.word.equals("max")) {
                at = t.to;
                if (!next("(")) {
                    throw new Fault(1, peek().from);
                }
                open(depth);
                must("(");
                Sum a = sum(depth + 1);
                must(",");
                Sum b = sum(depth + 1);
                must(")");
                return t.word.equals("min") ? e -> Math.min(a.of(e), b.of(e)) : e -> Math.max(a.of(e), b.of(e));
            }
            if (question && t.word.equals("weigh")) {
                open(depth);
                at = t.to;
                Sum of = part(depth + 1);
                return e -> {
                    long d = of.of(e);
                    return d < 0 || d >= e.w.length ? 0 : e.w[(int) d];
                };
            }
            Sum s = question ? asked(t.word) : own(t.word);
            if (s == null) {
                throw new Fault(1, t.from);
            }
            at = t.to;
            return s;
        }

        static Sum shared(String word) {
            switch (word) {
                case "worst": return e -> Arrays.stream(e.w).max().orElse(0);
                case "sum": return e -> Arrays.stream(e.w).sum();
                case "many": return e -> Arrays.stream(e.w).filter(n -> n > 0).count();
                default: return null;
            }
        }

        static Sum own(String word) {
            switch (word) {
                case "weigh": return e -> e.w[e.dread];
                case "number": return e -> e.dread;
                case "brave": return e -> e.brave;
                default: return shared(word);
            }
        }

        static Sum asked(String word) {
            switch (word) {
                case "room": return e -> e.room;
                case "dread": return e -> e.dread;
                default: return shared(word);
            }
        }

        Sum test(int depth) {
            Sum left = both(depth);
            while (take("or")) {
                Sum l = left;
                Sum r = both(depth);
                left = e -> l.of(e) + r.of(e) > 0 ? 1 : 0;
            }
            return left;
        }

        Sum both(int depth) {
            Sum left = factOf(depth);
            while (take("and")) {
                Sum l = left;
                Sum r = factOf(depth);
                left = e -> l.of(e) * r.of(e);
            }
            return left;
        }

        Sum factOf(int depth) {
            if (next("not")) {
                open(depth);
                must("not");
                Sum f = factOf(depth + 1);
                return e -> 1 - f.of(e);
            }
            if (next("[")) {
                open(depth);
                must("[");
                Sum f = test(depth + 1);
                must("]");
                return f;
            }
            if (take("all")) {
                return e -> 1;
            }
            Sum a = sum(depth);
            Token sign = peek();
            if (!List.of("<", ">", "=").contains(sign.word)) {
                throw new Fault(1, sign.from);
            }
            at = sign.to;
            Sum b = sum(depth);
            return e -> {
                int c = Long.compare(a.of(e), b.of(e));
                return (sign.word.equals("<") ? c < 0 : sign.word.equals(">") ? c > 0 : c == 0) ? 1 : 0;
            };
        }
    }

    Plot p = new Plot();
    int[][] w = new int[0][];
    int[] guideOf = new int[0];
    final StringBuilder tape = new StringBuilder();
    final List<Object[]> acts = new ArrayList<>();
    long x = 1;
    int faultKind = 0;
    int faultPlace = -1;
    int[] refused = new int[6];
    int toldOf = -1;
    int[] toldRow = new int[0];
    byte[] latest = new byte[0];

    int refuse(int i) {
        refused[i]++;
        return -1;
    }

    int feed(int... five) {
        if (tape.length() + 20 > 1600) {
            return refuse(0);
        }
        for (int n : five) {
            for (int s = 3; s >= 0; s--) {
                tape.append((char) ((n >> 8 * s) & 255));
            }
        }
        return tape.length();
    }

    boolean end(int n) {
        if (n < 0 || n > tape.length()) {
            refuse(0);
            return false;
        }
        tape.setLength(n);
        return true;
    }

    String takeTape() {
        String t = tape.toString();
        tape.setLength(0);
        return t;
    }

    int dream() {
        Parser r = new Parser(takeTape(), false);
        Plot plot = new Plot();
        int n = 0;
        faultKind = 0;
        faultPlace = -1;
        try {
            while (!r.peek().word.isEmpty()) {
                if (n == 70) {
                    throw new Fault(5, r.peek().from);
                }
                statement(r, plot);
                r.must(";");
                n++;
            }
        } catch (Fault f) {
            faultKind = f.kind;
            faultPlace = f.place;
            return refuse(1);
        }
        p = plot;
        w = new int[p.dreamers.size()][];
        for (int i = 0; i < w.length; i++) {
            w[i] = Arrays.copyOf(p.fears[i], p.dreads.size());
        }
        guideOf = new int[w.length];
        Arrays.fill(guideOf, -1);
        acts.clear();
        toldOf = -1;
        return n;
    }

    static void full(boolean full, Token t) {
        if (full) {
            throw new Fault(5, t.from);
        }
    }

    static String fresh(Parser r, Plot plot) {
        Token t = r.name();
        if (plot.dreads.contains(t.word) || plot.dreamers.contains(t.word) || plot.guides.contains(t.word)) {
            throw new Fault(3, t.from);
        }
        return t.word;
    }

    static int old(Parser r, List<String> names) {
        Token t = r.name();
        if (!names.contains(t.word)) {
            throw new Fault(3, t.from);
        }
        return names.indexOf(t.word);
    }

    static void statement(Parser r, Plot plot) {
        Token t = r.peek();
        r.at = t.to;
        switch (t.word) {
            case "dread":
                full(plot.dreads.size() == 6, t);
                plot.dreads.add(fresh(r, plot));
                break;
            case "dreamer":
                full(plot.dreamers.size() == 4, t);
                plot.dreamers.add(fresh(r, plot));
                r.must("brave");
                plot.brave.add(r.number(9));
                break;
            case "fears":
                int who = old(r, plot.dreamers);
                int what = old(r, plot.dreads);
                plot.fears[who][what] = r.number(999);
                break;
            case "guide":
                full(plot.guides.size() == 4, t);
                plot.guides.add(fresh(r, plot));
                r.must("of");
                plot.of.add(old(r, plot.dreads));
                break;
            case "meet":
            case "shun":
            case "byday":
                int i = List.of("meet", "shun", "byday").indexOf(t.word);
                full(plot.sums[i] != null, t);
                plot.sums[i] = r.sum(0);
                break;
            case "home":
                plot.home = r.number(9999);
                break;
            case "laugh":
                plot.laugh = r.number(100);
                break;
            case "spite":
                plot.spite = r.number(999);
                break;
            default:
                throw new Fault(1, t.from);
        }
    }

    int fault(int what) {
        return what == 0 ? faultKind : what == 1 ? faultPlace : -1;
    }

    boolean isHome(int[] v) {
        return Arrays.stream(v).sum() <= p.home;
    }

    int has(int what) {
        int home = 0;
        for (int[] v : w) {
            home += isHome(v) ? 1 : 0;
        }
        int[] all = {p.dreads.size(), w.length, p.guides.size(), p.home, p.laugh, p.spite, home, acts.size()};
        return what < 0 || what > 7 ? -1 : all[what];
    }

    int letter(int kind, int which, int k) {
        if (kind < 0 || kind > 2 || k < 0 || k > 5) {
            return -1;
        }
        List<String> names = kind == 0 ? p.dreads : kind == 1 ? p.dreamers : p.guides;
        if (which < 0 || which >= names.size()) {
            return -1;
        }
        return k < names.get(which).length() ? names.get(which).charAt(k) - 96 : 0;
    }

    /** The DREADS by what they COUNT, the heaviest first. */
    List<Integer> byCount(int[] v, int guide) {
        List<Integer> row = new ArrayList<>();
        for (int i = 0; i < v.length; i++) {
            row.add(i);
        }
        row.sort((a, b) -> counts(v, b, guide) - counts(v, a, guide));
        return row;
    }

    int counts(int[] v, int d, int guide) {
        return guide < 0 ? v[d] : p.of.get(guide) == d ? v[d] * 2 : v[d] / 2;
    }

    int dreamer(int d, int what) {
        if (!who(d) || what < 0 || what > 7) {
            return -1;
        }
        List<Integer> row = byCount(w[d], guideOf[d]);
        switch (what) {
            case 0: return p.brave.get(d);
            case 1: return guideOf[d];
            case 2: return Arrays.stream(w[d]).sum();
            case 3: return Arrays.stream(w[d]).max().orElse(0);
            case 4: return (int) Arrays.stream(w[d]).filter(n -> n > 0).count();
            case 5: return row.isEmpty() ? -1 : row.get(0);
            case 6: return row.size() < 2 ? -1 : row.get(1);
            default: return isHome(w[d]) ? 1 : 0;
        }
    }

    boolean who(int d) {
        return d >= 0 && d < w.length;
    }

    boolean what(int d) {
        return d >= 0 && d < p.dreads.size();
    }

    int made(int[] v, int d, int who, int kind) {
        if (p.sums[kind] == null) {
            return v[d];
        }
        Env e = new Env();
        e.w = v;
        e.dread = d;
        e.brave = p.brave.get(who);
        long n = p.sums[kind].of(e);
        return n < 0 ? 0 : n > 999 ? 999 : (int) n;
    }

    int weigh(int d, int dread, int what) {
        if (!who(d) || !what(dread) || what < 0 || what > 4) {
            return -1;
        }
        return what == 0 ? w[d][dread] : what == 1 ? counts(w[d], dread, guideOf[d]) : made(w[d], dread, d, what - 2);
    }

    int guide(int g) {
        return g < 0 || g >= p.of.size() ? -1 : p.of.get(g);
    }

    /** What a ROOM leaves behind; the DREAD he is with is written to with[0]. */
    int[] room(int[] v, int who, int guide, boolean round, int[] with) {
        List<Integer> row = byCount(v, guide);
        int[] u = v.clone();
        with[0] = row.get(round ? 1 : 0);
        u[with[0]] = made(v, with[0], who, 0);
        if (round) {
            u[row.get(0)] = made(v, row.get(0), who, 1);
        }
        return u;
    }

    final List<int[]> states = new ArrayList<>();
    final List<Integer> rooms = new ArrayList<>();

    void ahead(int d) {
        states.clear();
        rooms.clear();
        int[] v = w[d];
        states.add(v);
        while (!isHome(v) && rooms.size() < 200) {
            int[] with = new int[1];
            v = room(v, d, guideOf[d], false, with);
            rooms.add(with[0]);
            states.add(v);
        }
    }

    int room(int d, int k) {
        if (!who(d)) {
            return -1;
        }
        ahead(d);
        return k < 0 || k >= rooms.size() ? -1 : rooms.get(k);
    }

    int later(int d, int dread, int k) {
        if (!who(d) || !what(dread) || k < 0 || k > 200) {
            return -1;
        }
        ahead(d);
        return states.get(Math.min(k, states.size() - 1))[dread];
    }

    int till(int d) {
        if (!who(d)) {
            return -1;
        }
        ahead(d);
        return isHome(states.get(rooms.size())) ? rooms.size() : -1;
    }

    int again(int d, int what) {
        if (!who(d) || what < 0 || what > 1) {
            return -1;
        }
        ahead(d);
        Map<String, Integer> seen = new HashMap<>();
        for (int k = 0; k < rooms.size(); k++) {
            Integer before = seen.putIfAbsent(Arrays.toString(states.get(k)), k);
            if (before != null) {
                return what == 0 ? k : k - before;
            }
        }
        return -1;
    }

    /** The dread of a row of FACES and GOING ROUND; -1 when it is no WAY HOME. */
    int dreadOf(int[] v, int who, int guide, String row) {
        int dread = 0;
        for (char c : row.toCharArray()) {
            if (isHome(v) || c == '1' && v.length < 2) {
                return -1;
            }
            int[] with = new int[1];
            int[] u = room(v, who, guide, c == '1', with);
            dread += v[with[0]];
            v = u;
        }
        return isHome(v) ? dread : -1;
    }

    static final List<String> ROWS = new ArrayList<>();

    static {
        for (int n = 0; n <= 10; n++) {
            for (int bits = 0; bits < 1 << n; bits++) {
                StringBuilder row = new StringBuilder();
                for (int i = n - 1; i >= 0; i--) {
                    row.append(bits >> i & 1);
                }
                ROWS.add(row.toString());
            }
        }
    }

    String soonestRow(int[] v, int who, int guide) {
        for (String row : ROWS) {
            if (dreadOf(v, who, guide, row) >= 0) {
                return row;
            }
        }
        return null;
    }

    static int turn(String row, int k) {
        return k < 0 || k >= row.length() ? -1 : row.charAt(k) - '0';
    }

    int soonest(int d, int k) {
        String row = who(d) ? soonestRow(w[d], d, guideOf[d]) : null;
        return row == null ? -1 : k == -1 ? row.length() : turn(row, k);
    }

    int least(int d, int k) {
        if (!who(d)) {
            return -1;
        }
        String best = null;
        int dread = 0;
        for (String row : ROWS) {
            int n = dreadOf(w[d], d, guideOf[d], row);
            if (n >= 0 && (best == null || n < dread)) {
                best = row;
                dread = n;
            }
        }
        return best == null ? -1 : k == -1 ? dread : k == 20 ? best.length() : turn(best, k);
    }

    int along(int d, int what) {
        if (!who(d) || what < 0 || what > 1) {
            return -1;
        }
        int best = -1;
        int fewest = 11;
        for (int g = -1; g < p.of.size(); g++) {
            String row = soonestRow(w[d], d, g);
            if (row != null && row.length() < fewest) {
                fewest = row.length();
                best = g;
            }
        }
        return fewest == 11 ? -1 : what == 0 ? best + 1 : fewest;
    }

    int[] bestOrder;
    int bestDays;

    void orders(int d, int[] v, List<Integer> met, int set) {
        if (met.size() == Integer.bitCount(set)) {
            String row = soonestRow(v, d, guideOf[d]);
            if (row != null && row.length() < bestDays) {
                bestDays = row.length();
                bestOrder = met.stream().mapToInt(i -> i).toArray();
            }
            return;
        }
        for (int i = 0; i < v.length; i++) {
            if ((set & 1 << i) != 0 && !met.contains(i)) {
                int[] u = v.clone();
                u[i] = made(v, i, d, 2);
                List<Integer> more = new ArrayList<>(met);
                more.add(i);
                orders(d, u, more, set);
            }
        }
    }

    int days(int d, int set, int k) {
        if (!who(d) || set < 0 || set >> p.dreads.size() != 0 || Integer.bitCount(set) > 4) {
            return -1;
        }
        bestDays = 11;
        orders(d, w[d], List.of(), set);
        if (bestDays == 11) {
            return -1;
        }
        return k == -1 ? bestDays : k < 0 || k >= bestOrder.length ? -1 : bestOrder[k];
    }

    int hand(int a, int b, int k) {
        if (!who(a) || !who(b) || a == b) {
            return -1;
        }
        int[] u = w[a].clone();
        int[] v = w[b].clone();
        List<Integer> met = new ArrayList<>();
        while (!(isHome(u) && isHome(v))) {
            if (met.size() == 200) {
                return -1;
            }
            int[] both = new int[u.length];
            for (int i = 0; i < both.length; i++) {
                both[i] = u[i] + v[i];
            }
            int d = byCount(both, -1).get(0);
            met.add(d);
            u[d] = made(u, d, a, 0);
            v[d] = made(v, d, b, 0);
        }
        return k == -1 ? met.size() : k < 0 || k >= met.size() ? -1 : met.get(k);
    }

    boolean wins(int[] v, int d, int n) {
        if (isHome(v)) {
            return true;
        }
        for (int round = 0; n > 0 && round < Math.min(2, v.length); round++) {
            int[] u = room(v, d, guideOf[d], round == 1, new int[1]);
            boolean all = true;
            for (int i = 0; i < u.length; i++) {
                int[] worse = u.clone();
                worse[i] = Math.min(999, worse[i] + p.spite);
                all &= wins(worse, d, n - 1);
            }
            if (all) {
                return true;
            }
        }
        return false;
    }

    int against(int d, int n) {
        return !who(d) || n < 0 || n > 3 ? -1 : wins(w[d], d, n) ? 1 : 0;
    }

    /** Of 100 to the n. */
    long shares(int[] v, int d, int n) {
        if (isHome(v)) {
            return (long) Math.pow(100, n);
        }
        if (n == 0) {
            return 0;
        }
        int[] u = room(v, d, guideOf[d], false, new int[1]);
        int[] half = Arrays.stream(u).map(i -> i / 2).toArray();
        return (100 - p.laugh) * shares(u, d, n - 1) + p.laugh * shares(half, d, n - 1);
    }

    int chance(int d, int n) {
        return !who(d) || n < 0 || n > 4 ? -1 : (int) (shares(w[d], d, n) * 1000 / (long) Math.pow(100, n));
    }

    void act() {
        int[][] copy = new int[w.length][];
        for (int i = 0; i < w.length; i++) {
            copy[i] = w[i].clone();
        }
        acts.add(new Object[] {copy, guideOf.clone()});
        if (acts.size() > 20) {
            acts.remove(0);
        }
    }

    int meet(int d, boolean round) {
        if (!who(d) || isHome(w[d]) || p.dreads.size() < (round ? 2 : 1)) {
            return refuse(2);
        }
        act();
        int[] with = new int[1];
        w[d] = room(w[d], d, guideOf[d], round, with);
        return with[0];
    }

    int day(int d, int dread) {
        if (!who(d) || !what(dread)) {
            return refuse(2);
        }
        act();
        w[d][dread] = made(w[d], dread, d, 2);
        return w[d][dread];
    }

    boolean take(int d, int g) {
        if (!who(d) || g < -1 || g >= p.of.size() || guideOf[d] == g) {
            refuse(2);
            return false;
        }
        act();
        guideOf[d] = g;
        return true;
    }

    int set(int d, int dread, int n) {
        if (!who(d) || !what(dread) || n < 0 || n > 999) {
            return refuse(2);
        }
        act();
        int was = w[d][dread];
        w[d][dread] = n;
        return was;
    }

    int draw(int m) {
        x = (1103515245L * x + 12345L) % 2147483648L;
        return (int) (x / 64 % m);
    }

    int night(int d, int n) {
        if (!who(d) || n < 1 || n > 100) {
            return refuse(2);
        }
        act();
        for (int i = 0; i < n; i++) {
            if (isHome(w[d])) {
                return i;
            }
            boolean round = draw(2) == 1 && w[d].length > 1;
            w[d] = room(w[d], d, guideOf[d], round, new int[1]);
            if (draw(100) < p.laugh) {
                w[d] = Arrays.stream(w[d]).map(v -> v / 2).toArray();
            }
        }
        return n;
    }

    boolean undo() {
        if (acts.isEmpty()) {
            refuse(3);
            return false;
        }
        Object[] was = acts.remove(acts.size() - 1);
        w = (int[][]) was[0];
        guideOf = (int[]) was[1];
        return true;
    }

    boolean seed(int s) {
        if (s < 0) {
            refuse(4);
            return false;
        }
        x = s;
        return true;
    }

    int told(int d) {
        String t = takeTape();
        if (!who(d) || t.isEmpty() || t.length() > 20 || t.chars().anyMatch(c -> !what(c))) {
            return refuse(1);
        }
        toldOf = d;
        toldRow = t.chars().toArray();
        return toldRow.length;
    }

    int fits(int dread, int what) {
        if (toldOf < 0 || !what(dread) || what < 0 || what > 2) {
            return -1;
        }
        int[] was = w[toldOf];
        List<Integer> found = new ArrayList<>();
        for (int n = 0; n < 1000; n++) {
            w[toldOf] = was.clone();
            w[toldOf][dread] = n;
            ahead(toldOf);
            boolean alike = rooms.size() >= toldRow.length;
            for (int k = 0; alike && k < toldRow.length; k++) {
                alike = rooms.get(k) == toldRow[k];
            }
            if (alike) {
                found.add(n);
            }
        }
        w[toldOf] = was;
        if (what == 0) {
            return found.size();
        }
        return found.isEmpty() ? -1 : found.get(what == 1 ? 0 : found.size() - 1);
    }

    long ask(int d) {
        String t = takeTape();
        if (!who(d)) {
            return NightDoors.NOTHING;
        }
        faultKind = 0;
        faultPlace = -1;
        Parser r = new Parser(t, true);
        Token head = r.peek();
        Sum s;
        try {
            int kind = List.of("first", "last", "often", "total", "most", "least").indexOf(head.word);
            if (kind < 0) {
                throw new Fault(1, head.from);
            }
            r.at = head.to;
            s = kind < 3 ? r.test(0) : r.sum(0);
            if (!r.peek().word.isEmpty()) {
                throw new Fault(1, r.peek().from);
            }
        } catch (Fault f) {
            faultKind = f.kind;
            faultPlace = f.place;
            return NightDoors.NOTHING;
        }
        ahead(d);
        List<Long> values = new ArrayList<>();
        for (int k = 0; k < rooms.size(); k++) {
            Env e = new Env();
            e.w = states.get(k);
            e.dread = rooms.get(k);
            e.room = k;
            values.add(s.of(e));
        }
        switch (head.word) {
            case "first": return values.indexOf(1L);
            case "last": return values.lastIndexOf(1L);
            case "often":
            case "total": return values.stream().mapToLong(i -> i).sum();
            case "most": return values.stream().mapToLong(i -> i).max().orElse(0);
            default: return values.stream().mapToLong(i -> i).min().orElse(0);
        }
    }

    byte[] picture() {
        byte[] all = new byte[w.length * (1 + 2 * p.dreads.size()) + 1];
        int at = 0;
        int c = 181;
        for (int i = 0; i < w.length; i++) {
            all[at++] = (byte) (guideOf[i] + 1);
            for (int n : w[i]) {
                all[at++] = (byte) (n / 256);
                all[at++] = (byte) (n % 256);
            }
        }
        for (int i = 0; i < at; i++) {
            c = (3 * c + (all[i] & 255)) % 251;
        }
        all[at] = (byte) c;
        return all;
    }

    int image() {
        latest = picture();
        return latest.length;
    }

    int octet(int k) {
        return k < 0 || k >= latest.length ? -1 : latest[k] & 255;
    }

    boolean on() {
        int[] t = takeTape().chars().toArray();
        int each = 1 + 2 * p.dreads.size();
        boolean right = t.length == w.length * each + 1;
        int c = 181;
        for (int i = 0; right && i < t.length - 1; i++) {
            c = (3 * c + t[i]) % 251;
        }
        right = right && t[t.length - 1] == c;
        int[][] read = new int[w.length][p.dreads.size()];
        for (int i = 0; right && i < w.length; i++) {
            right = t[i * each] <= p.of.size();
            for (int j = 0; right && j < p.dreads.size(); j++) {
                read[i][j] = t[i * each + 1 + 2 * j] * 256 + t[i * each + 2 + 2 * j];
                right = read[i][j] < 1000;
            }
        }
        if (!right) {
            refuse(5);
            return false;
        }
        for (int i = 0; i < w.length; i++) {
            guideOf[i] = t[i * each] - 1;
        }
        w = read;
        acts.clear();
        return true;
    }

    int status(int what) {
        return what < 0 || what > 5 ? -1 : refused[what];
    }
}
