import java.math.BigInteger;

/**
 * Term II of the document, and promises 22 to 28: each sentence that names a bound has a test of its own, headed by the
 * sentence's words, on both sides of the bound.
 */
public final class BoundsOfRoomsTest {
    private static final int[] WILD = {Integer.MIN_VALUE, -2, Integer.MAX_VALUE};
    private static final String ABC = "dread a;dread b;dread c;dreamer d brave 1;guide g of b;";

    public static void main(String[] args) {
        countsTwiceOrHalf();
        worstOfLikeOnes();
        secondOfLikeOnes();
        worstByWhatCounts();
        homeNotAbove();
        homeByWeights();
        notWhenHome();
        withoutDreads();
        roundWithTwo();
        belowNothing();
        withoutTheSums();
        asItIsAhead();
        greatestOfWeights();
        manyAboveNothing();
        numberAndBrave();
        laughHalves();
        belowLaugh();
        nightRooms();
        nightEndsAtHome();
        nightDraws();
        nightWithOneDread();
        drawsOfTheSeed();
        lastTwenty();
        actsUndone();
        seedBounds();
        takeBounds();
        setBounds();
        dayBounds();
        Check.end();
    }

    private static void put(NightDoors x, int dreamer, int... weights) {
        for (int i = 0; i < weights.length; i++) {
            x.set(dreamer, i, weights[i]);
        }
    }

    private static void weights(String how, NightDoors x, int dreamer, int... due) {
        for (int i = 0; i < due.length; i++) {
            Check.due("weight " + i + " " + how, x.weigh(dreamer, i, 0), due[i]);
        }
    }

    // "It COUNTS as it is; with a GUIDE along twice, if it is his DREAD, else half (floor)."
    private static void countsTwiceOrHalf() {
        NightDoors x = Check.dreaming(ABC);
        int[] weights = {0, 1, 2, 3, 998, 999};
        int[] halves = {0, 0, 1, 1, 499, 499};
        for (int i = 0; i < weights.length; i++) {
            int n = weights[i];
            put(x, 0, n, n, n);
            x.take(0, -1);
            for (int j = 0; j < 3; j++) {
                Check.due(n + " COUNTS as it is", x.weigh(0, j, 1), n);
            }
            x.take(0, 0);
            Check.due(n + " COUNTS half", x.weigh(0, 0, 1), halves[i]);
            Check.due(n + " COUNTS twice", x.weigh(0, 1, 1), 2 * n);
            Check.due(n + " COUNTS half, too", x.weigh(0, 2, 1), halves[i]);
        }
    }

    private static void worst(NightDoors x, int worst, int second, int... weights) {
        put(x, 0, weights);
        String of = "";
        for (int n : weights) {
            of += " " + n;
        }
        Check.due("WORST of" + of, x.dreamer(0, 5), worst);
        Check.due("SECOND of" + of, x.dreamer(0, 6), second);
    }

    // "WORST is the DREAD that COUNTS most .. (of like ones the first)"
    private static void worstOfLikeOnes() {
        NightDoors x = Check.dreaming(ABC);
        worst(x, 0, 1, 0, 0, 0);
        worst(x, 0, 1, 5, 5, 5);
        worst(x, 1, 0, 5, 6, 5);
        worst(x, 2, 0, 5, 5, 6);
        worst(x, 1, 2, 4, 5, 5);
        worst(x, 0, 2, 5, 4, 5);
        worst(x, 0, 1, 999, 999, 0);
        worst(x, 1, 0, 998, 999, 0);
    }

    // "SECOND the one of the others that does (of like ones the first)"
    private static void secondOfLikeOnes() {
        NightDoors x = Check.dreaming("dread a;dread b;dread c;dread e;dreamer d brave 1;");
        worst(x, 0, 1, 9, 5, 5, 5);
        worst(x, 0, 2, 9, 4, 5, 5);
        worst(x, 0, 3, 9, 4, 4, 5);
        worst(x, 1, 0, 5, 9, 5, 5);
        worst(x, 1, 2, 4, 9, 5, 5);
        worst(x, 3, 0, 5, 5, 5, 9);
        worst(x, 3, 2, 4, 4, 5, 9);
        worst(x, 1, 0, 0, 1, 0, 0);
        NightDoors none = Check.dreaming("dreamer d brave 1;");
        NightDoors one = Check.dreaming("dread a;dreamer d brave 1;");
        NightDoors two = Check.dreaming("dread a;dread b;dreamer d brave 1;");
        Check.due("WORST of no DREADS", none.dreamer(0, 5), -1);
        Check.due("SECOND of no DREADS", none.dreamer(0, 6), -1);
        Check.due("WORST of one", one.dreamer(0, 5), 0);
        Check.due("SECOND of one", one.dreamer(0, 6), -1);
        Check.due("WORST of two", two.dreamer(0, 5), 0);
        Check.due("SECOND of two", two.dreamer(0, 6), 1);
    }

    // The same by what they COUNT: twice b, half of a and c.
    private static void worstByWhatCounts() {
        NightDoors x = Check.dreaming(ABC);
        x.take(0, 0);
        worst(x, 0, 1, 8, 2, 9);
        worst(x, 0, 1, 9, 2, 8);
        worst(x, 0, 2, 10, 2, 10);
        worst(x, 0, 1, 10, 2, 9);
        worst(x, 1, 0, 10, 3, 3);
        worst(x, 2, 0, 9, 2, 10);
        worst(x, 0, 1, 1, 0, 1);
        worst(x, 1, 0, 999, 250, 999);
        worst(x, 0, 2, 999, 249, 999);
    }

    // "He is HOME, if all his weights together are not above home."
    private static void homeNotAbove() {
        NightDoors x = Check.dreaming(ABC + "home 10;dreamer e brave 1;");
        int[][] rows = {{5, 5, 0}, {5, 5, 1}, {0, 0, 9}, {0, 0, 10}, {0, 0, 11}, {3, 3, 3}, {4, 3, 3}, {4, 4, 3}, {0, 0, 0}};
        int[] due = {1, 0, 1, 1, 0, 1, 1, 0, 1};
        for (int i = 0; i < rows.length; i++) {
            put(x, 0, rows[i]);
            Check.due("HOME, row " + i, x.dreamer(0, 7), due[i]);
            Check.due("DREAMERS who are HOME, row " + i, x.has(6), 1 + due[i]);
            Check.due("till(), row " + i, x.till(0) == 0, due[i] == 1);
        }
        NightDoors none = Check.dreaming(ABC);
        Check.due("home 0, of 0", none.dreamer(0, 7), 1);
        none.set(0, 2, 1);
        Check.due("home 0, of 1", none.dreamer(0, 7), 0);
        NightDoors all = Check.dreaming(ABC + "home 9999;");
        put(all, 0, 999, 999, 999);
        Check.due("home 9999", all.dreamer(0, 7), 1);
    }

    // Weights, not what they COUNT: twice 10 is above home, half of 11 is not.
    private static void homeByWeights() {
        NightDoors x = Check.dreaming(ABC + "home 10;");
        x.take(0, 0);
        put(x, 0, 0, 10, 0);
        Check.due("HOME with 10 that COUNTS 20", x.dreamer(0, 7), 1);
        put(x, 0, 11, 0, 0);
        Check.due("not HOME with 11 that COUNTS 5", x.dreamer(0, 7), 0);
        Check.due("a ROOM, too", x.meet(0, false), 0);
    }

    // "IN A ROOM (not when he is HOME ..)"; "meet(): NONE, refused (2), when he is HOME"
    private static void notWhenHome() {
        NightDoors x = Check.dreaming(ABC + "home 10;meet weigh-1;shun weigh-1;");
        put(x, 0, 11, 0, 0);
        Check.due("one above home", x.meet(0, false), 0);
        Check.due("HOME now, he can't FACE", x.meet(0, false), -1);
        Check.due("nor GO ROUND", x.meet(0, true), -1);
        Check.due("refused", x.status(2), 2);
        weights("as it was", x, 0, 10, 0, 0);
        put(x, 0, 6, 5, 0);
        Check.due("one above home, round", x.meet(0, true), 1);
        weights("behind it", x, 0, 5, 4, 0);
        Check.due("HOME now", x.meet(0, true), -1);
    }

    // "IN A ROOM (.. nor without DREADS)"
    private static void withoutDreads() {
        NightDoors x = Check.dreaming("dreamer d brave 1;meet 5;");
        Check.due("FACES", x.meet(0, false), -1);
        Check.due("GOES ROUND", x.meet(0, true), -1);
        Check.due("refused", x.status(2), 2);
        Check.due("a night", x.night(0, 100), 0);
        Check.due("HOME", x.dreamer(0, 7), 1);
    }

    // "or he GOES ROUND (with two DREADS or more)"
    private static void roundWithTwo() {
        NightDoors one = Check.dreaming("dread a;dreamer d brave 1;fears d a 5;meet weigh-1;shun 0;");
        Check.due("one DREAD, round", one.meet(0, true), -1);
        Check.due("refused", one.status(2), 1);
        Check.due("no ACT", one.has(7), 0);
        weights("as it was", one, 0, 5);
        Check.due("one DREAD, FACES", one.meet(0, false), 0);
        NightDoors two = Check.dreaming("dread a;dread b;dreamer d brave 1;fears d a 5;meet weigh+7;shun weigh-1;");
        Check.due("two DREADS, round", two.meet(0, true), 1);
        weights("round", two, 0, 4, 7);
        Check.due("not refused", two.status(2), 0);
    }

    // "0 .. 999 (below is 0, above 999 ..)", of meet, shun and byday
    private static void belowNothing() {
        String[] sums = {"0-9999*9999", "0-2", "0-1", "0", "1", "998", "999", "1000", "9999", "9999*9999"};
        int[] due = {0, 0, 0, 0, 1, 998, 999, 999, 999, 999};
        for (int i = 0; i < sums.length; i++) {
            String fears = "dread a;dread b;dreamer d brave 1;fears d a 500;fears d b 400;";
            NightDoors x = Check.dreaming(fears + "meet " + sums[i] + ";");
            Check.due("weigh() of meet " + sums[i], x.weigh(0, 0, 2), due[i]);
            x.meet(0, false);
            weights("of meet " + sums[i], x, 0, due[i], 400);
            NightDoors y = Check.dreaming(fears + "shun " + sums[i] + ";");
            Check.due("weigh() of shun " + sums[i], y.weigh(0, 0, 3), due[i]);
            y.meet(0, true);
            weights("of shun " + sums[i], y, 0, due[i], 400);
            NightDoors z = Check.dreaming(fears + "byday " + sums[i] + ";");
            Check.due("weigh() of byday " + sums[i], z.weigh(0, 1, 4), due[i]);
            Check.due("day() of byday " + sums[i], z.day(0, 1), due[i]);
            weights("of byday " + sums[i], z, 0, 500, due[i]);
        }
    }

    // "as it is without the SUM"
    private static void withoutTheSums() {
        String fears = "dread a;dread b;dreamer d brave 1;fears d a 999;fears d b 1;";
        String[] sums = {"meet 7;", "shun 8;", "byday 9;"};
        for (int without = 0; without < 3; without++) {
            String text = fears;
            for (int i = 0; i < 3; i++) {
                text += i == without ? "" : sums[i];
            }
            NightDoors x = Check.dreaming(text);
            for (int i = 0; i < 3; i++) {
                Check.due(text + " weigh, " + (2 + i), x.weigh(0, 0, 2 + i), i == without ? 999 : 7 + i);
            }
            Check.due(text + " day", x.day(0, 1), without == 2 ? 1 : 9);
            x.undo();
            x.meet(0, true);
            weights(text + " round", x, 0, without == 1 ? 999 : 8, without == 0 ? 1 : 7);
        }
    }

    // "both by all as it is ahead of it"
    private static void asItIsAhead() {
        NightDoors x = Check.dreaming("dread a;dread b;dreamer d brave 2;fears d a 5;fears d b 3;"
            + "meet sum*10+worst+many;shun sum*10+worst+many+100;");
        Check.due("round", x.meet(0, true), 1);
        weights("by 5 and 3", x, 0, 187, 87);
    }

    // "worst: the greatest of his weights", whatever COUNTS
    private static void greatestOfWeights() {
        NightDoors x = Check.dreaming(ABC + "byday worst;");
        put(x, 0, 19, 6, 20);
        x.take(0, 0);
        Check.due("the WORST is b", x.dreamer(0, 5), 1);
        Check.due("the greatest is c's", x.weigh(0, 0, 4), 20);
        Check.due("dreamer(0, 3)", x.dreamer(0, 3), 20);
        put(x, 0, 0, 0, 0);
        Check.due("of nothing", x.weigh(0, 0, 4), 0);
        Check.due("dreamer(0, 3), of nothing", x.dreamer(0, 3), 0);
    }

    // "many: how many are above 0"
    private static void manyAboveNothing() {
        NightDoors x = Check.dreaming("dread a;dread b;dread c;dread d;dread e;dread f;dreamer g brave 1;byday many;");
        for (int n = 0; n <= 6; n++) {
            Check.due(n + " are above 0", x.weigh(0, 5, 4), n);
            Check.due("dreamer(0, 4), of " + n, x.dreamer(0, 4), n);
            Check.due("all together, " + n, x.dreamer(0, 2), n);
            if (n < 6) {
                x.set(0, n, 1);
            }
        }
    }

    // "number: the DREAD's; brave: his"
    private static void numberAndBrave() {
        NightDoors x = Check.dreaming("dread a;dread b;dread c;dread d;dread e;dread f;dreamer g brave 0;dreamer h brave 9;"
            + "byday number;meet brave;");
        for (int i = 0; i < 6; i++) {
            Check.due("number of " + i, x.weigh(0, i, 4), i);
            Check.due("brave 0", x.weigh(0, i, 2), 0);
            Check.due("brave 9", x.weigh(1, i, 2), 9);
        }
    }

    // "A LAUGH halves all his weights (floor)."
    private static void laughHalves() {
        NightDoors x = Check.dreaming("dread a;dread b;dread c;dread e;dread f;dreamer d brave 1;dreamer h brave 1;laugh 100;");
        put(x, 0, 999, 7, 2, 1, 0);
        put(x, 1, 9, 9, 9, 9, 9);
        Check.due("a night", x.night(0, 1), 1);
        weights("halved", x, 0, 499, 3, 1, 0, 0);
        weights("of the other", x, 1, 9, 9, 9, 9, 9);
    }

    /** The DRAW of this number (from 1 on) from a seed on, by 64 bits and more. */
    private static int drawn(long seed, int number, int m) {
        BigInteger x = BigInteger.valueOf(seed);
        for (int i = 0; i < number; i++) {
            x = x.multiply(BigInteger.valueOf(1103515245L)).add(BigInteger.valueOf(12345)).mod(BigInteger.ONE.shiftLeft(31));
        }
        return x.divide(BigInteger.valueOf(64)).mod(BigInteger.valueOf(m)).intValue();
    }

    // "then a DRAW of 100: below laugh he LAUGHS"
    private static void belowLaugh() {
        boolean least = false;
        boolean most = false;
        for (int seed = 0; seed < 150; seed++) {
            int draw = drawn(seed, 2, 100);
            for (int laugh = draw; laugh <= draw + 1; laugh++) {
                NightDoors x = Check.dreaming("dread a;dreamer d brave 1;fears d a 8;laugh " + laugh + ";");
                x.seed(seed);
                x.night(0, 1);
                Check.due("DRAW " + draw + ", laugh " + laugh, x.weigh(0, 0, 0), laugh > draw ? 4 : 8);
            }
            least |= draw == 0;
            most |= draw == 99;
        }
        Check.due("a DRAW of 0 was there", least, true);
        Check.due("a DRAW of 99 was there", most, true);
    }

    // "A NIGHT of n ROOMS (1 .. 100): how many there were; NONE, refused (2), when n can't be, or there is none such."
    private static void nightRooms() {
        NightDoors x = Check.dreaming("dread a;dread b;dreamer d brave 1;fears d a 500;");
        Check.due("1", x.night(0, 1), 1);
        Check.due("2", x.night(0, 2), 2);
        Check.due("99", x.night(0, 99), 99);
        Check.due("100", x.night(0, 100), 100);
        Check.due("ACTS", x.has(7), 4);
        Check.due("0", x.night(0, 0), -1);
        Check.due("-1", x.night(0, -1), -1);
        Check.due("101", x.night(0, 101), -1);
        for (int n : WILD) {
            Check.due("" + n, x.night(0, n), -1);
            Check.due("of " + n, x.night(n, 1), -1);
        }
        Check.due("of 1", x.night(1, 1), -1);
        Check.due("of -1", x.night(-1, 1), -1);
        Check.due("refused", x.status(2), 11);
        Check.due("no ACTS", x.has(7), 4);
    }

    // "it ends when he is HOME"
    private static void nightEndsAtHome() {
        String text = "dread a;dreamer d brave 1;fears d a 30;meet weigh-10;home ";
        int[] homes = {0, 9, 10, 19, 20, 29, 30};
        int[] rooms = {3, 3, 2, 2, 1, 1, 0};
        for (int i = 0; i < homes.length; i++) {
            Check.due("till HOME at " + homes[i], Check.dreaming(text + homes[i] + ";").night(0, 100), rooms[i]);
        }
        Check.due("two of three", Check.dreaming(text + "0;").night(0, 2), 2);
        Check.due("three of three", Check.dreaming(text + "0;").night(0, 3), 3);
        // A LAUGH can bring him HOME: 8, 4, 2.
        Check.due("by LAUGHS", Check.dreaming("dread a;dreamer d brave 1;fears d a 8;laugh 100;home 2;").night(0, 9), 2);
    }

    // "(no more DRAWS)": what the other one's night is drawn by tells where the seed is.
    private static void nightDraws() {
        String text = "dread a;dreamer d brave 1;dreamer e brave 1;fears d a 30;fears e a 999;meet weigh-10*brave;laugh 50;";
        for (int seed = 0; seed < 40; seed++) {
            NightDoors x = Check.dreaming(text);
            x.seed(seed);
            x.night(0, 100);
            int rooms = 0;
            int weight = 30;
            int draws = 0;
            while (weight > 0) {
                weight = Math.max(0, weight - 10);
                draws += 2;
                rooms++;
                weight = drawn(seed, draws, 100) < 50 ? weight / 2 : weight;
            }
            Check.due("HOME, no ROOM", x.night(0, 5), 0);
            x.night(1, 1);
            Check.due("DRAWS till then, seed " + seed, x.weigh(1, 0, 0), drawn(seed, draws + 2, 100) < 50 ? 494 : 989);
        }
    }

    // "a DRAW of 2 (.. with one DREAD he FACES it in any case)": it is drawn in any case, too.
    private static void nightWithOneDread() {
        int round = 0;
        for (int seed = 0; seed < 40; seed++) {
            round += drawn(seed, 1, 2);
            NightDoors x = Check.dreaming("dread a;dreamer d brave 1;fears d a 500;meet weigh-1;shun 0;laugh 50;");
            x.seed(seed);
            Check.due("one ROOM", x.night(0, 1), 1);
            Check.due("FACED, seed " + seed, x.weigh(0, 0, 0), drawn(seed, 2, 100) < 50 ? 249 : 499);
        }
        Check.due("some would go round", round > 0 && round < 40, true);
    }

    // "A DRAW of m: x (the seed) becomes (1103515245 x + 12345) mod 2 to the 31; floor(x / 64) mod m."
    private static void drawsOfTheSeed() {
        for (long seed : new long[] {0, 1, 2, 63, 64, 12345, 1073741823L, 1073741824L, 2147483646L, 2147483647L}) {
            NightDoors x = Check.dreaming("dread a;dread b;dreamer d brave 1;meet weigh-1;shun weigh+1;laugh 40;");
            x.seed((int) seed);
            for (int room = 0; room < 60; room++) {
                put(x, 0, 500, 400);
                x.night(0, 1);
                boolean round = drawn(seed, 2 * room + 1, 2) == 1;
                int of = drawn(seed, 2 * room + 2, 100) < 40 ? 2 : 1;
                weights("seed " + seed + ", ROOM " + room, x, 0, (round ? 501 : 499) / of, (round ? 399 : 400) / of);
            }
        }
        // Without a seed told it is 1.
        NightDoors x = Check.dreaming("dread a;dread b;dreamer d brave 1;meet weigh-1;shun weigh+1;");
        for (int room = 0; room < 40; room++) {
            put(x, 0, 500, 400);
            x.night(0, 1);
            Check.due("from 1 on, ROOM " + room, x.weigh(0, 1, 0), 400 - drawn(1, 2 * room + 1, 2));
        }
    }

    // "The last 20 can be undone."
    private static void lastTwenty() {
        for (int acts : new int[] {1, 19, 20, 21, 22, 39, 40, 41, 60}) {
            NightDoors x = Check.dreaming("dread a;dreamer d brave 1;fears d a 0;");
            for (int n = 1; n <= acts; n++) {
                x.set(0, 0, n);
            }
            int undone = Math.min(20, acts);
            Check.due("of " + acts, x.has(7), undone);
            for (int n = acts - 1; n >= acts - undone; n--) {
                Check.due("undo, of " + acts, x.undo(), true);
                weights("undone, of " + acts, x, 0, n);
                Check.due("left", x.has(7), n - (acts - undone));
            }
            Check.due("no more", x.undo(), false);
            Check.due("status(3)", x.status(3), 1);
            weights("stays", x, 0, acts - undone);
        }
    }

    // "undo(): The latest ACT is undone (the seed stays)", whichever of the six it was
    private static void actsUndone() {
        String text = "dread a;dread b;dreamer d brave 1;dreamer e brave 2;guide g of a;guide h of b;fears d a 50;"
            + "fears d b 40;fears e b 60;meet weigh-3;shun weigh+4;byday weigh*2;laugh 60;";
        for (int act = 0; act < 8; act++) {
            NightDoors x = Check.dreaming(text);
            x.take(1, 1);
            String before = All.of(x);
            switch (act) {
                case 0: x.meet(0, false); break;
                case 1: x.meet(1, true); break;
                case 2: x.day(0, 1); break;
                case 3: x.take(0, 0); break;
                case 4: x.take(1, -1); break;
                case 5: x.take(1, 0); break;
                case 6: x.set(1, 0, 999); break;
                default: x.night(1, 5); break;
            }
            Check.due("ACT " + act + " does something", All.of(x).equals(before), false);
            Check.due("undo of " + act, x.undo(), true);
            Check.due("as it was ahead of " + act, All.of(x).equals(before), true);
            x.seed(1);
            x.night(0, 3);
            x.undo();
            x.set(0, 0, 50);
            x.night(0, 1);
            boolean laughs = drawn(1, 8, 100) < 60;
            boolean round = drawn(1, 7, 2) == 1;
            Check.due("the seed stays", x.weigh(0, 0, 0), (round ? 54 : 47) / (laughs ? 2 : 1));
        }
    }

    // "seed(): The seed: true; false, refused (4), when it is below 0."
    private static void seedBounds() {
        NightDoors x = Check.dreaming("dread a;dread b;dreamer d brave 1;meet weigh-1;shun weigh+1;laugh 40;");
        NightDoors y = Check.dreaming("dread a;dread b;dreamer d brave 1;meet weigh-1;shun weigh+1;laugh 40;");
        for (int n : new int[] {0, 1, Integer.MAX_VALUE, 7}) {
            Check.due("seed " + n, x.seed(n) && y.seed(n), true);
        }
        Check.due("seed -1", x.seed(-1), false);
        Check.due("seed MIN", x.seed(Integer.MIN_VALUE), false);
        Check.due("refused", x.status(4), 2);
        for (int room = 0; room < 20; room++) {
            put(x, 0, 500, 400);
            put(y, 0, 500, 400);
            Check.due("a night", x.night(0, 1), y.night(0, 1));
            Check.due("the seed stays 7", x.weigh(0, 0, 0), y.weigh(0, 0, 0));
            Check.due("the seed stays 7", x.weigh(0, 1, 0), y.weigh(0, 1, 0));
        }
    }

    // "take(): A GUIDE comes along (NONE: nobody ..): true; false, refused (2), when there are none such, or it is so already."
    private static void takeBounds() {
        NightDoors x = Check.dreaming("dread a;dreamer d brave 1;dreamer e brave 1;guide g of a;guide h of a;");
        boolean[] due = {false, true, false, true, false, true, true, false, true, true, false, false, false};
        int[] guides = {-1, 0, 0, 1, 1, 0, -1, -1, 1, -1, 2, -2, 4};
        int refused = 0;
        for (int i = 0; i < guides.length; i++) {
            Check.due("step " + i + ": take " + guides[i], x.take(0, guides[i]), due[i]);
            refused += due[i] ? 0 : 1;
            Check.due("step " + i + ": refused", x.status(2), refused);
            Check.due("step " + i + ": ACTS", x.has(7), i + 1 - refused);
        }
        Check.due("nobody is along", x.dreamer(0, 1), -1);
        Check.due("one for both", x.take(0, 1) && x.take(1, 1), true);
        Check.due("one DREAMER more", x.take(2, 0), false);
        Check.due("one less", x.take(-1, 0), false);
        Check.due("one less, nobody", x.take(-1, -1), false);
        for (int n : WILD) {
            Check.due("GUIDE " + n, x.take(0, n), false);
            Check.due("DREAMER " + n, x.take(n, 0), false);
        }
        NightDoors none = Check.dreaming("dread a;dreamer d brave 1;");
        Check.due("without GUIDES", none.take(0, 0), false);
        Check.due("without GUIDES, nobody", none.take(0, -1), false);
    }

    // "set(): A weight is n (0 .. 999): what it was; NONE, refused (2), when something can't be."
    private static void setBounds() {
        NightDoors x = Check.dreaming("dread a;dread b;dreamer d brave 1;dreamer e brave 1;fears d a 3;fears e b 4;");
        Check.due("0", x.set(0, 0, 0), 3);
        Check.due("1", x.set(0, 0, 1), 0);
        Check.due("998", x.set(0, 0, 998), 1);
        Check.due("999", x.set(0, 0, 999), 998);
        Check.due("999 again, an ACT", x.set(0, 0, 999), 999);
        Check.due("the last weight of all", x.set(1, 1, 5), 4);
        Check.due("ACTS", x.has(7), 6);
        int[][] wrong = {{0, 0, -1}, {0, 0, 1000}, {0, -1, 5}, {0, 2, 5}, {-1, 0, 5}, {2, 0, 5}};
        for (int[] w : wrong) {
            Check.due("set " + w[0] + " " + w[1] + " " + w[2], x.set(w[0], w[1], w[2]), -1);
        }
        for (int n : WILD) {
            Check.due("weight " + n, x.set(0, 0, n), -1);
            Check.due("DREAD " + n, x.set(0, n, 1), -1);
            Check.due("DREAMER " + n, x.set(n, 0, 1), -1);
        }
        Check.due("refused", x.status(2), 15);
        Check.due("no ACTS", x.has(7), 6);
        weights("stay", x, 0, 999, 0);
        weights("stay", x, 1, 0, 5);
    }

    // "day(): A DREAD is met BY DAY: its weight then; NONE, refused (2), when there are none such."
    private static void dayBounds() {
        NightDoors x = Check.dreaming("dread a;dread b;dreamer d brave 1;dreamer e brave 1;byday weigh+5;home 9;");
        Check.due("HOME, by day", x.day(0, 0), 5);
        Check.due("the last of all", x.day(1, 1), 5);
        Check.due("not HOME any more, by day", x.day(0, 1) + x.day(0, 1), 15);
        int[][] wrong = {{0, -1}, {0, 2}, {-1, 0}, {2, 0}};
        for (int[] w : wrong) {
            Check.due("day " + w[0] + " " + w[1], x.day(w[0], w[1]), -1);
        }
        for (int n : WILD) {
            Check.due("DREAD " + n, x.day(0, n), -1);
            Check.due("DREAMER " + n, x.day(n, 0), -1);
        }
        Check.due("refused", x.status(2), 10);
        Check.due("ACTS", x.has(7), 4);
    }
}
