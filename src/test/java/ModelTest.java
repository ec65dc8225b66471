import java.util.ArrayList;
import java.util.List;
import java.util.Random;

/** Runs of calls by chance (of fixed seeds), each answer compared with the model's. */
public final class ModelTest {
    private static final String[] NAMES = {"a", "bb", "ccc", "dddd", "eeeee", "ffffff", "ann", "bob", "gus", "x"};
    private final Random by;
    private final NightDoors real = new NightDoors();
    private final Model model = new Model();
    private final List<String> calls = new ArrayList<>();
    private boolean wrong = false;

    private ModelTest(long seed) {
        by = new Random(seed);
    }

    public static void main(String[] args) {
        int wrong = 0;
        int runs = args.length > 0 ? Integer.parseInt(args[0]) : 250;
        for (int run = 0; run < runs && wrong < 3; run++) {
            ModelTest t = new ModelTest(run);
            t.play();
            if (t.wrong) {
                wrong++;
                System.out.println("run " + run + ":");
                t.calls.forEach(c -> System.out.println("  " + c));
            }
        }
        Check.due("runs not as due", wrong, 0);
        Check.end();
    }

    private int any(int n) {
        return by.nextInt(n);
    }

    private String pick(String... words) {
        return words[any(words.length)];
    }

    private void same(String call, long got, long want) {
        if (wrong) {
            return;
        }
        calls.add(call + " " + got);
        if (got != want) {
            wrong = true;
            calls.add("  due is " + want);
        }
    }

    private void same(String call, boolean got, boolean want) {
        same(call, got ? 1 : 0, want ? 1 : 0);
    }

    private void tape(byte[] text) {
        for (int i = 0; i < text.length; i += 20) {
            int[] n = new int[5];
            for (int j = 0; j < 5; j++) {
                n[j] = Check.four(text, i + 4 * j);
            }
            same("feed", real.feed(n[0], n[1], n[2], n[3], n[4]), model.feed(n));
        }
        same("end", real.end(text.length), model.end(text.length));
    }

    private String blank() {
        return any(4) == 0 ? pick(" ", "  ", "\n", " \n") : "";
    }

    private String sum(int depth, boolean question) {
        StringBuilder s = new StringBuilder(part(depth, question));
        while (any(3) == 0) {
            s.append(blank()).append(pick("+", "-", "*", "/")).append(blank()).append(part(depth, question));
        }
        return s.toString();
    }

    private String part(int depth, boolean question) {
        int kind = any(depth > 2 ? 6 : 9);
        if (kind < 2) {
            return String.valueOf(any(any(3) == 0 ? 10000 : 20));
        }
        if (kind < 5) {
            return question ? pick("room", "dread", "worst", "sum", "many")
                : pick("weigh", "weigh", "weigh", "worst", "sum", "many", "number", "brave");
        }
        if (kind == 5) {
            return question ? "weigh " + part(depth + 1, true) : "weigh/2";
        }
        if (kind == 6) {
            return "(" + blank() + sum(depth + 1, question) + ")";
        }
        return pick("min", "max") + blank() + "(" + sum(depth + 1, question) + "," + sum(depth + 1, question) + ")";
    }

    private String test(int depth) {
        StringBuilder s = new StringBuilder(fact(depth));
        while (any(3) == 0) {
            s.append(" ").append(pick("and", "or")).append(" ").append(fact(depth));
        }
        return s.toString();
    }

    private String fact(int depth) {
        int kind = any(depth > 2 ? 4 : 6);
        if (kind == 0) {
            return "all";
        }
        if (kind < 4) {
            return sum(depth, true) + blank() + pick("<", ">", "=") + blank() + sum(depth, true);
        }
        return kind == 4 ? "not " + fact(depth + 1) : "[" + test(depth + 1) + "]";
    }

    private String meetSum() {
        switch (any(6)) {
            case 0: return "weigh/2-brave";
            case 1: return "weigh-" + any(40) + "-brave*" + any(9);
            case 2: return any(600) + "-weigh";
            case 3: return "weigh*3/4-number*" + any(5);
            case 4: return "min(weigh, worst/2+many)-" + any(30);
            default: return sum(0, false);
        }
    }

    private String dreamText() {
        StringBuilder s = new StringBuilder();
        int dreads = any(7);
        int dreamers = any(8) == 0 ? 0 : 1 + any(4);
        int guides = dreads == 0 ? 0 : any(5);
        for (int i = 0; i < dreads; i++) {
            s.append("dread ").append(NAMES[i]).append(";").append(blank());
        }
        for (int i = 0; i < dreamers; i++) {
            s.append("dreamer m").append((char) ('a' + i)).append(" brave ").append(any(10)).append(";");
        }
        for (int i = 0; i < guides; i++) {
            s.append("guide g").append((char) ('a' + i)).append(" of ").append(NAMES[any(dreads)]).append(" ;");
        }
        int most = any(3) == 0 ? 1000 : any(2) == 0 ? 100 : 20;
        for (int i = 0; i < 20 && dreads > 0 && dreamers > 0; i++) {
            s.append("fears m").append((char) ('a' + any(dreamers))).append(" ").append(NAMES[any(dreads)])
                .append(" ").append(any(most)).append(";").append(blank());
        }
        for (String kind : new String[] {"meet", "shun", "byday"}) {
            if (any(10) > 0) {
                s.append(kind).append(" ").append(meetSum()).append(blank()).append(";");
            }
        }
        s.append("home ").append(any(most)).append(";laugh ").append(any(101)).append(";");
        s.append("spite ").append(any(4) == 0 ? any(1000) : any(20)).append(";");
        return s.toString();
    }

    private String spoil(String text) {
        StringBuilder s = new StringBuilder(text);
        int times = 1 + any(2);
        for (int i = 0; i < times; i++) {
            int at = any(s.length() + 1);
            String bit = pick(" ", ";", "(", ")", "1", "99999", "0", "dread ", "guide ", "z", "abcdefg", "weigh ", "of",
                "((((((((", "min(", ",", "=", "<", "A", "\t", "not ", "[", "]", "and ", " or", "meet 1;", "dread q;",
                "dreamer r brave 1;", "weigh weigh weigh ", "not not not ", "\u00e9",
                "dread qq;dread qr;dread qs;", "laugh 101;", "spite 1000;", "dreamer rr brave 10;", "home 1;".repeat(60));
            int kind = any(3);
            int behind = s.indexOf(";", at) + 1;
            if (any(3) == 0 && behind > 0) {
                at = behind;
                kind = 0;
            }
            if (kind > 0 && at < s.length()) {
                s.delete(at, Math.min(s.length(), at + 1 + any(5)));
            }
            if (kind < 2) {
                s.insert(at, bit);
            }
        }
        return s.length() > 1600 ? s.substring(0, 1600) : s.toString();
    }

    private void dream() {
        String text = dreamText();
        text = any(3) == 0 ? spoil(text) : text;
        tape(Check.bytes(text));
        same("dream of \"" + text + "\"", real.dream(), model.dream());
        faults();
    }

    private void faults() {
        for (int i = -1; i < 3; i++) {
            same("fault(" + i + ")", real.fault(i), model.fault(i));
        }
    }

    private void ask() {
        String text = any(2) == 0 ? pick("first", "last", "often") + " " + test(0)
            : pick("total", "most", "least") + " " + sum(0, true);
        text = any(3) == 0 ? spoil(text) : text;
        tape(Check.bytes(text.length() > 1600 ? text.substring(0, 1600) : text));
        int d = who();
        same("ask(" + d + ") \"" + text + "\"", real.ask(d), model.ask(d));
        faults();
    }

    private int who() {
        int n = model.w.length;
        return any(12) == 0 || n == 0 ? any(7) - 1 : any(n);
    }

    private int what() {
        int n = model.p.dreads.size();
        return any(12) == 0 || n == 0 ? any(9) - 1 : any(n);
    }

    private void all() {
        for (int i = -1; i < 9; i++) {
            same("has(" + i + ")", real.has(i), model.has(i));
            same("status(" + i + ")", real.status(i), model.status(i));
        }
        for (int d = -1; d < 5; d++) {
            for (int i = -1; i < 9; i++) {
                same("dreamer(" + d + ", " + i + ")", real.dreamer(d, i), model.dreamer(d, i));
            }
            for (int j = -1; j < 7; j++) {
                for (int i = -1; i < 6; i++) {
                    same("weigh(" + d + ", " + j + ", " + i + ")", real.weigh(d, j, i), model.weigh(d, j, i));
                }
            }
            same("guide(" + d + ")", real.guide(d), model.guide(d));
        }
    }

    private void letters() {
        for (int kind = -1; kind < 4; kind++) {
            for (int which = -1; which < 8; which++) {
                for (int k = -1; k < 8; k++) {
                    same("letter(" + kind + ", " + which + ", " + k + ")", real.letter(kind, which, k),
                        model.letter(kind, which, k));
                }
            }
        }
    }

    private void picture() {
        same("image()", real.image(), model.image());
        byte[] all = new byte[model.latest.length];
        for (int k = -1; k < all.length + 2; k++) {
            same("octet(" + k + ")", real.octet(k), model.octet(k));
            if (k >= 0 && k < all.length) {
                all[k] = (byte) real.octet(k);
            }
        }
        if (any(3) == 0) {
            all[any(all.length)] = (byte) any(256);
        }
        if (any(2) == 0) {
            all[0] = (byte) any(6);
            int c = 181;
            for (int i = 0; i < all.length - 1; i++) {
                c = (3 * c + (all[i] & 255)) % 251;
            }
            all[all.length - 1] = (byte) c;
        }
        tape(all);
        same("on()", real.on(), model.on());
    }

    private void tell() {
        int d = who();
        int n = any(10) == 0 ? any(25) : 1 + any(4);
        byte[] row = new byte[n];
        for (int i = 0; i < n; i++) {
            int room = model.room(d, i);
            row[i] = (byte) (any(20) == 0 ? any(7) : Math.max(0, room));
        }
        tape(row);
        same("told(" + d + ") of " + n, real.told(d), model.told(d));
        for (int i = -1; i < 4; i++) {
            int dread = what();
            same("fits(" + dread + ", " + i + ")", real.fits(dread, i), model.fits(dread, i));
        }
    }

    private void aheads(int d) {
        int k = any(5) == 0 ? any(204) - 2 : any(12);
        int j = what();
        int i = any(4) - 1;
        same("room(" + d + ", " + k + ")", real.room(d, k), model.room(d, k));
        same("later(" + d + ", " + j + ", " + k + ")", real.later(d, j, k), model.later(d, j, k));
        same("till(" + d + ")", real.till(d), model.till(d));
        same("again(" + d + ", " + i + ")", real.again(d, i), model.again(d, i));
    }

    private void homes(int d) {
        int k = any(3) == 0 ? -1 : any(14) - 2;
        int n = any(7) - 1;
        int e = who();
        int set = any(10) == 0 ? any(130) - 2 : any(1 << model.p.dreads.size());
        same("soonest(" + d + ", " + k + ")", real.soonest(d, k), model.soonest(d, k));
        same("least(" + d + ", " + k + ")", real.least(d, k), model.least(d, k));
        same("least(" + d + ", 20)", real.least(d, 20), model.least(d, 20));
        same("along(" + d + ", " + (n - 1) + ")", real.along(d, n - 1), model.along(d, n - 1));
        if (any(4) == 0) {
            same("days(" + d + ", " + set + ", " + k + ")", real.days(d, set, k), model.days(d, set, k));
        }
        same("hand(" + d + ", " + e + ", " + k + ")", real.hand(d, e, k), model.hand(d, e, k));
        same("against(" + d + ", " + n + ")", real.against(d, n), model.against(d, n));
        same("chance(" + d + ", " + n + ")", real.chance(d, n), model.chance(d, n));
    }

    private void act(int d) {
        int j = what();
        switch (any(7)) {
            case 0: {
                boolean round = any(2) == 0;
                same("meet(" + d + ", " + round + ")", real.meet(d, round), model.meet(d, round));
                break;
            }
            case 1:
                same("day(" + d + ", " + j + ")", real.day(d, j), model.day(d, j));
                break;
            case 2: {
                int g = any(7) - 2;
                same("take(" + d + ", " + g + ")", real.take(d, g), model.take(d, g));
                break;
            }
            case 3: {
                int n = any(5) == 0 ? any(1004) - 2 : any(100);
                same("set(" + d + ", " + j + ", " + n + ")", real.set(d, j, n), model.set(d, j, n));
                break;
            }
            case 4: {
                int n = any(5) == 0 ? any(104) - 2 : any(5);
                same("night(" + d + ", " + n + ")", real.night(d, n), model.night(d, n));
                break;
            }
            case 5:
                same("undo()", real.undo(), model.undo());
                break;
            default: {
                int s = any(3) == 0 ? by.nextInt() : any(100);
                same("seed(" + s + ")", real.seed(s), model.seed(s));
                break;
            }
        }
    }

    private void play() {
        dream();
        letters();
        for (int i = 0; i < 25 && !wrong; i++) {
            int d = who();
            switch (any(12)) {
                case 0: dream(); letters(); break;
                case 1: case 2: case 3: ask(); break;
                case 4: aheads(d); break;
                case 5: homes(d); break;
                case 6: picture(); break;
                case 7: tell(); break;
                default:
                    for (int j = 0; j < 3; j++) {
                        act(who());
                    }
            }
            all();
        }
    }
}
