/**
 * Term III of the document, and promises 11 to 21, 29 and 30: each sentence that names a bound has a test of its own,
 * headed by the sentence's words, on both sides of the bound.
 */
public final class BoundsOfWaysTest {
    private static final int[] WILD = {Integer.MIN_VALUE, -2, Integer.MAX_VALUE};

    public static void main(String[] args) {
        till();
        room();
        later();
        againInTwoHundred();
        againOfAllWeights();
        againWhat();
        tenRooms();
        tenRoomsRound();
        notSooner();
        soonestOfLikeOnes();
        soonestK();
        leastOfLikeOnes();
        leastFewestRooms();
        leastK();
        alongOfLikeOnes();
        alongWhat();
        daysOfFour();
        daysOfLikeOnes();
        daysLastOrder();
        daysEachMet();
        daysNoOthers();
        daysSets();
        handTwoHundred();
        handOfLikeOnes();
        handHomeComesAlong();
        handWho();
        againstRooms();
        againstHome();
        againstNineHundred();
        againstWhateverTheDreamDoes();
        chanceRooms();
        chanceFloor();
        chanceOfAll();
        toldRows();
        fitsAllWeights();
        fitsNotHomeAhead();
        fitsWhat();
        Check.end();
    }

    private static NightDoors down(int weight, String more) {
        return Check.dreaming("dread a;dreamer d brave 1;guide g of a;fears d a " + weight + ";meet weigh-1;" + more);
    }

    private static NightDoors two(int a, int b, String more) {
        return Check.dreaming("dread a;dread b;dreamer d brave 1;fears d a " + a + ";fears d b " + b + ";" + more);
    }

    // "AHEAD: a DREAMER FACES each ROOM from now on, 200 at most, till he is HOME"; "till(): NONE when 200 are not enough"
    private static void till() {
        int[] weights = {99, 100, 101, 102, 298, 299, 300, 301, 302, 999};
        int[] due = {0, 0, 1, 2, 198, 199, 200, -1, -1, -1};
        for (int i = 0; i < weights.length; i++) {
            NightDoors x = down(weights[i], "home 100;");
            Check.due("till of " + weights[i], x.till(0), due[i]);
            Check.due("ROOMS of " + weights[i], Check.ask(x, 0, "often all"), due[i] < 0 ? 200 : due[i]);
        }
        NightDoors none = Check.dreaming("dreamer d brave 1;");
        Check.due("without DREADS", none.till(0), 0);
        for (int d : new int[] {-1, 1, 2, 4}) {
            Check.due("till(" + d + ")", none.till(d), -1);
        }
        for (int d : WILD) {
            Check.due("till(" + d + ")", none.till(d), -1);
        }
    }

    // "room(): the DREAD of the k-th ROOM (0 .. 199); NONE when he is HOME by then"
    private static void room() {
        int[][] lasts = {{100, -1}, {101, 0}, {102, 1}, {299, 198}, {300, 199}, {301, 199}, {999, 199}};
        for (int[] l : lasts) {
            NightDoors x = down(l[0], "home 100;");
            Check.due("the last ROOM of " + l[0], x.room(0, l[1]), l[1] < 0 ? -1 : 0);
            Check.due("the first ROOM of " + l[0], x.room(0, 0), l[1] < 0 ? -1 : 0);
            Check.due("a ROOM more of " + l[0], x.room(0, l[1] + 1), -1);
            Check.due("ROOM 200 of " + l[0], x.room(0, 200), -1);
            Check.due("ROOM -1 of " + l[0], x.room(0, -1), -1);
            for (int k : WILD) {
                Check.due("ROOM " + k, x.room(0, k), -1);
                Check.due("of DREAMER " + k, x.room(k, 0), -1);
            }
            Check.due("of DREAMER 1", x.room(1, 0), -1);
        }
    }

    // "later(): the weight of a DREAD ahead of the k-th ROOM (0 .. 200; at the end, if he is HOME sooner); NONE .."
    private static void later() {
        int[][] rows = {{100, 0, 100}, {100, 1, 100}, {100, 200, 100}, {101, 0, 101}, {101, 1, 100}, {101, 2, 100},
            {101, 200, 100}, {299, 198, 101}, {299, 199, 100}, {299, 200, 100}, {300, 199, 101}, {300, 200, 100},
            {301, 199, 102}, {301, 200, 101}, {999, 200, 799}};
        for (int[] r : rows) {
            NightDoors x = down(r[0], "home 100;");
            Check.due("of " + r[0] + " ahead of " + r[1], x.later(0, 0, r[1]), r[2]);
            Check.due("k 201", x.later(0, 0, 201), -1);
            Check.due("k -1", x.later(0, 0, -1), -1);
            Check.due("DREAD 1", x.later(0, 1, 0), -1);
            Check.due("DREAD -1", x.later(0, -1, 0), -1);
            Check.due("DREAMER 1", x.later(1, 0, 0), -1);
            Check.due("DREAMER -1", x.later(-1, 0, 0), -1);
            for (int n : WILD) {
                Check.due("k " + n, x.later(0, 0, n), -1);
                Check.due("DREAD " + n, x.later(0, n, 0), -1);
                Check.due("DREAMER " + n, x.later(n, 0, 0), -1);
            }
        }
        Check.due("without DREADS", Check.dreaming("dreamer d brave 1;").later(0, 0, 0), -1);
    }

    // "again(): NONE when nothing comes again in 200 ROOMS": ahead of the ROOMS 0 to 199
    private static void againInTwoHundred() {
        // Down to 100, where it stays: ahead of the first ROOM behind that it is as ahead of that.
        int[][] rows = {{100, 1, 1}, {101, 2, 1}, {297, 198, 1}, {298, 199, 1}, {299, -1, -1}, {300, -1, -1}, {999, -1, -1}};
        for (int[] r : rows) {
            NightDoors x = two(r[0], 0, "meet max(weigh-1,100);");
            Check.due("the ROOM of " + r[0], x.again(0, 0), r[1]);
            Check.due("since, of " + r[0], x.again(0, 1), r[2]);
        }
        // A round of n ROOMS, from 300 on.
        for (int n = 197; n <= 202; n++) {
            NightDoors x = two(300, 0, "meet weigh+1-weigh/" + (299 + n) + "*" + n + ";");
            Check.due("a round of " + n, x.again(0, 0), n <= 199 ? n : -1);
            Check.due("a round of " + n + ", since", x.again(0, 1), n <= 199 ? n : -1);
        }
    }

    // "AGAIN: the first ROOM (from 0 on) ahead of which all his weights are as they were ahead of an earlier one"
    private static void againOfAllWeights() {
        // Of two weights one changes ROOM by ROOM: one is as it was, but never both.
        NightDoors x = two(9, 5, "meet weigh-1;");
        Check.due("one of two", x.again(0, 0), -1);
        Check.due("one of two, since", x.again(0, 1), -1);
        // 9 5, then 1 5, 1 5: ahead of ROOM 1 b alone is as it was, ahead of ROOM 2 both are.
        NightDoors y = two(9, 5, "meet (9-weigh)/4*4+1;");
        Check.due("both", y.again(0, 0), 2);
        Check.due("both, since", y.again(0, 1), 1);
        Check.due("HOME now", two(9, 5, "home 14;").again(0, 0), -1);
        Check.due("for ever", two(9, 5, "home 13;").again(0, 0), 1);
        Check.due("for ever, since", two(9, 5, "home 13;").again(0, 1), 1);
        Check.due("HOME behind a ROOM", two(9, 5, "meet 8;home 13;").again(0, 0), -1);
        Check.due("without DREADS", Check.dreaming("dreamer d brave 1;").again(0, 0), -1);
    }

    // "again(): NONE when .. there is none such, or for others"
    private static void againWhat() {
        NightDoors x = two(9, 5, "");
        for (int what : new int[] {-1, 2, 3, Integer.MIN_VALUE, Integer.MAX_VALUE}) {
            Check.due("what " + what, x.again(0, what), -1);
        }
        for (int d : new int[] {-1, 1, 4, Integer.MIN_VALUE, Integer.MAX_VALUE}) {
            Check.due("DREAMER " + d, x.again(d, 0), -1);
        }
    }

    // "A WAY HOME is a row of FACES and GOING ROUND, 10 ROOMS at most"
    private static void tenRooms() {
        for (int n = 0; n <= 12; n++) {
            NightDoors x = down(n, "");
            int due = n <= 10 ? n : -1;
            Check.due("soonest of " + n, x.soonest(0, -1), due);
            Check.due("least of " + n, x.least(0, -1), n <= 10 ? n * (n + 1) / 2 : -1);
            Check.due("least of " + n + ", ROOMS", x.least(0, 20), due);
            Check.due("along of " + n, x.along(0, 1), due);
            Check.due("along of " + n + ", none", x.along(0, 0), n <= 10 ? 0 : -1);
            Check.due("days of " + n, x.days(0, 1, -1), due);
            Check.due("days of " + n + ", the first", x.days(0, 1, 0), n <= 10 ? 0 : -1);
            Check.due("days of no DREADS, " + n, x.days(0, 0, -1), due);
            for (int k = 0; k < 12; k++) {
                Check.due("soonest of " + n + ", " + k, x.soonest(0, k), n <= 10 && k < n ? 0 : -1);
                Check.due("least of " + n + ", " + k, x.least(0, k), n <= 10 && k < n ? 0 : -1);
            }
        }
    }

    // The same by going round alone, which is the last of all rows that are looked at.
    private static void tenRoomsRound() {
        for (int n = 9; n <= 11; n++) {
            NightDoors x = two(n, 0, "shun weigh-1;");
            Check.due("round, of " + n, x.soonest(0, -1), n <= 10 ? n : -1);
            Check.due("round, least of " + n, x.least(0, -1), n <= 10 ? 0 : -1);
            Check.due("round, least of " + n + ", ROOMS", x.least(0, 20), n <= 10 ? n : -1);
            for (int k = 0; k < 11; k++) {
                Check.due("round, ROOM " + k, x.soonest(0, k), n <= 10 && k < n ? 1 : -1);
                Check.due("round, least, ROOM " + k, x.least(0, k), n <= 10 && k < n ? 1 : -1);
            }
        }
    }

    // "at the end of which he is HOME (not sooner)": who is HOME has the row of no ROOMS.
    private static void notSooner() {
        NightDoors x = two(5, 4, "meet 0;shun 0;home 9;");
        Check.due("soonest", x.soonest(0, -1), 0);
        Check.due("soonest, k 0", x.soonest(0, 0), -1);
        Check.due("least", x.least(0, -1), 0);
        Check.due("least, ROOMS", x.least(0, 20), 0);
        Check.due("least, k 0", x.least(0, 0), -1);
        Check.due("along", x.along(0, 0), 0);
        Check.due("along, ROOMS", x.along(0, 1), 0);
        Check.due("days", x.days(0, 3, -1), 0);
        x.set(0, 0, 6);
        Check.due("not HOME any more", x.soonest(0, -1), 1);
        Check.due("he FACES", x.soonest(0, 0), 0);
    }

    // "SOONEST: the fewest ROOMS, of like ones the first (FACES ahead of GOING ROUND, ROOM by ROOM)"
    private static void soonestOfLikeOnes() {
        NightDoors x = two(5, 3, "meet 0;shun 0;home 3;");
        Check.due("either way", x.soonest(0, -1), 1);
        Check.due("FACES", x.soonest(0, 0), 0);
        NightDoors y = two(5, 3, "meet 0;shun 0;home 2;");
        Check.due("round alone", y.soonest(0, -1), 1);
        Check.due("round", y.soonest(0, 0), 1);
        // FACE, FACE: 1 0; FACE, round: 0 0 (b 3 of meet 0 ..): the first of those with 2 ROOMS.
        NightDoors z = two(5, 3, "meet weigh-4;");
        Check.due("more than one ROOM", z.soonest(0, -1), 3);
        int[] due = {0, 0, 0};
        for (int k = 0; k < 3; k++) {
            Check.due("FACES in " + k, z.soonest(0, k), due[k]);
        }
        // Only the second ROOM must be gone round: 8 6, 4 6, then with a: 0 3.
        NightDoors w = two(8, 6, "meet weigh-4;shun weigh-3;home 3;");
        Check.due("FACES, then round", w.soonest(0, -1), 2);
        Check.due("FACES", w.soonest(0, 0), 0);
        Check.due("then round", w.soonest(0, 1), 1);
    }

    // "soonest(): how many ROOMS (k NONE), whether he GOES ROUND in the k-th one (1, 0). NONE .. for others."
    private static void soonestK() {
        NightDoors x = two(8, 6, "meet weigh-4;shun weigh-3;home 3;");
        for (int k : new int[] {2, 3, 9, 10, 11, 20, -2, Integer.MIN_VALUE, Integer.MAX_VALUE}) {
            Check.due("k " + k, x.soonest(0, k), -1);
        }
        for (int d : new int[] {-1, 1, 4, Integer.MIN_VALUE, Integer.MAX_VALUE}) {
            Check.due("DREAMER " + d, x.soonest(d, -1), -1);
            Check.due("DREAMER " + d + ", k 0", x.soonest(d, 0), -1);
        }
        NightDoors none = two(8, 6, "");
        Check.due("no WAY HOME", none.soonest(0, -1), -1);
        Check.due("no WAY HOME, k 0", none.soonest(0, 0), -1);
    }

    // "LEAST DREAD: .. of like ones the fewest ROOMS, then the first"
    private static void leastOfLikeOnes() {
        // FACE a, FACE b; or round with b, FACE a: 8 by 2 ROOMS.
        NightDoors x = two(4, 4, "meet 0;");
        Check.due("least", x.least(0, -1), 8);
        Check.due("ROOMS", x.least(0, 20), 2);
        Check.due("FACES", x.least(0, 0), 0);
        Check.due("FACES again", x.least(0, 1), 0);
        // Behind a, b and c are like ones: 9 4 4 by any order.
        NightDoors y = Check.dreaming("dread a;dread b;dread c;dreamer d brave 1;fears d a 9;fears d b 4;fears d c 4;meet 0;");
        Check.due("least of three", y.least(0, -1), 17);
        Check.due("ROOMS of three", y.least(0, 20), 3);
        for (int k = 0; k < 3; k++) {
            Check.due("FACES in " + k, y.least(0, k), 0);
        }
        // A dread less is enough for going round: 5 4, with b alone.
        NightDoors z = two(5, 4, "meet 0;shun 0;home 4;");
        Check.due("less dread", z.least(0, -1), 4);
        Check.due("round", z.least(0, 0), 1);
        Check.due("soonest FACES", z.soonest(0, 0), 0);
        NightDoors w = two(5, 5, "meet 0;shun 0;home 5;");
        Check.due("as much dread", w.least(0, -1), 5);
        Check.due("FACES", w.least(0, 0), 0);
    }

    // FACE a (5), then round with a (0): 5 by 2 ROOMS, but round with b (5): 5 by one.
    private static void leastFewestRooms() {
        NightDoors x = two(5, 5, "meet 0;shun 0;");
        Check.due("least", x.least(0, -1), 5);
        Check.due("ROOMS", x.least(0, 20), 1);
        Check.due("round", x.least(0, 0), 1);
        Check.due("no second", x.least(0, 1), -1);
    }

    // "least(): how much (k NONE), how many ROOMS (20), whether he GOES ROUND in the k-th one. NONE likewise."
    private static void leastK() {
        NightDoors x = two(5, 4, "meet 0;shun 0;home 4;");
        for (int k : new int[] {1, 9, 10, 19, 21, -2, Integer.MIN_VALUE, Integer.MAX_VALUE}) {
            Check.due("k " + k, x.least(0, k), -1);
        }
        NightDoors none = two(5, 4, "");
        for (int k : new int[] {-1, 0, 1, 20}) {
            Check.due("no WAY HOME, k " + k, none.least(0, k), -1);
            for (int d : new int[] {-1, 1, 4, Integer.MIN_VALUE, Integer.MAX_VALUE}) {
                Check.due("DREAMER " + d + ", k " + k, x.least(d, k), -1);
            }
        }
    }

    private static NightDoors onlyC(String guides) {
        // Only c can be met, and is never WORST nor SECOND without its GUIDE.
        return Check.dreaming("dread a;dread b;dread c;dreamer d brave 1;" + guides + "fears d a 10;fears d b 9;fears d c 8;"
            + "meet weigh*(1-number/2);home 19;");
    }

    // "ALONG: the GUIDE (or none) with whom SOONEST has the fewest ROOMS: none ahead of GUIDES, these by numbers; of like
    // ones the first"
    private static void alongOfLikeOnes() {
        Check.due("the first", onlyC("guide g of c;").along(0, 0), 1);
        Check.due("the second", onlyC("guide g of a;guide h of c;").along(0, 0), 2);
        Check.due("the fourth", onlyC("guide g of a;guide h of b;guide i of a;guide j of c;").along(0, 0), 4);
        Check.due("of like ones", onlyC("guide g of a;guide h of c;guide i of c;guide j of c;").along(0, 0), 2);
        Check.due("ROOMS", onlyC("guide g of a;guide h of c;guide i of c;guide j of c;").along(0, 1), 1);
        Check.due("none of c", onlyC("guide g of a;guide h of b;").along(0, 0), -1);
        Check.due("none of c, ROOMS", onlyC("guide g of a;guide h of b;").along(0, 1), -1);
        Check.due("no GUIDES", onlyC("").along(0, 0), -1);
        // None and both GUIDES need one ROOM: none is the first.
        NightDoors x = two(5, 4, "guide g of a;guide h of b;meet 0;shun 0;");
        Check.due("none ahead of GUIDES", x.along(0, 0), 0);
        Check.due("none, ROOMS", x.along(0, 1), 1);
        x.take(0, 1);
        Check.due("none, whoever is along", x.along(0, 0), 0);
        // With the GUIDE of b he FACES b, alone he must go two ROOMS: b is the third there.
        NightDoors y = Check.dreaming("dread a;dread b;dread c;dreamer d brave 1;guide g of a;guide h of c;fears d a 10;"
            + "fears d b 9;fears d c 8;meet weigh*(2-number)/2;home 19;");
        Check.due("alone two ROOMS", y.soonest(0, -1), 2);
        Check.due("with h", y.along(0, 0), 2);
        Check.due("with h one ROOM", y.along(0, 1), 1);
    }

    // "along(): the GUIDE and 1 (what 0; 0 none), how many ROOMS (1). NONE .. when there is none such, or for others."
    private static void alongWhat() {
        NightDoors x = onlyC("guide g of c;");
        for (int what : new int[] {-1, 2, 20, Integer.MIN_VALUE, Integer.MAX_VALUE}) {
            Check.due("what " + what, x.along(0, what), -1);
        }
        for (int d : new int[] {-1, 1, 4, Integer.MIN_VALUE, Integer.MAX_VALUE}) {
            Check.due("DREAMER " + d, x.along(d, 0), -1);
            Check.due("DREAMER " + d + ", ROOMS", x.along(d, 1), -1);
        }
    }

    private static NightDoors six(String more) {
        return Check.dreaming("dread a;dread b;dread c;dread d;dread e;dread f;dreamer g brave 1;fears g a 1;fears g b 1;"
            + "fears g c 1;fears g d 1;fears g e 1;fears g f 1;" + more);
    }

    // "DAYS: some DREADS (a set of 4 at most)"
    private static void daysOfFour() {
        NightDoors x = six("byday 0;home 6;");
        for (int set = 0; set < 64; set++) {
            boolean right = Integer.bitCount(set) <= 4;
            Check.due("set " + set, x.days(0, set, -1), right ? 0 : -1);
            Check.due("set " + set + ", the first", x.days(0, set, 0),
                right && set > 0 ? Integer.numberOfTrailingZeros(set) : -1);
            int last = Integer.bitCount(set) - 1;
            Check.due("set " + set + ", the last", x.days(0, set, last),
                right ? (set > 0 ? 31 - Integer.numberOfLeadingZeros(set) : 0) : -1);
            Check.due("set " + set + ", one more", x.days(0, set, last + 1), -1);
        }
    }

    // "of like ones the first order by DREADS"
    private static void daysOfLikeOnes() {
        NightDoors x = six("byday weigh/2;meet 0;");
        int[][] sets = {{0, 1, 2, 3}, {2, 3, 4, 5}, {0, 2, 3, 5}, {1, 4}, {0, 1, 5}, {5}};
        for (int[] order : sets) {
            int set = 0;
            for (int d : order) {
                set |= 1 << d;
            }
            Check.due("ROOMS behind set " + set, x.days(0, set, -1), 6 - order.length);
            for (int k = 0; k < order.length; k++) {
                Check.due("set " + set + ", " + k, x.days(0, set, k), order[k]);
            }
            Check.due("set " + set + ", behind it", x.days(0, set, order.length), -1);
        }
    }

    // "in the order by which SOONEST behind them has the fewest ROOMS": the last of 24 orders alone, and one between.
    private static void daysLastOrder() {
        String fears = "dread a;dread b;dread c;dread e;dreamer d brave 1;fears d a 1;fears d b 1;fears d c 1;fears d e 1;";
        NightDoors last = Check.dreaming(fears + "byday min((many-number-1)*(many-number-1),1);");
        Check.due("the last order", last.days(0, 15, -1), 0);
        for (int k = 0; k < 4; k++) {
            Check.due("the last order, " + k, last.days(0, 15, k), 3 - k);
        }
        Check.due("three of them", last.days(0, 7, -1), -1);
        Check.due("three of them, the first", last.days(0, 7, 0), -1);
        // As many are left as DREADS follow by number: 0 when 4, 1 when 3, 2 when 2, 3 when one is.
        NightDoors first = Check.dreaming(fears + "byday min((many+number-4)*(many+number-4),1);");
        Check.due("the first order", first.days(0, 15, -1), 0);
        for (int k = 0; k < 4; k++) {
            Check.due("the first order, " + k, first.days(0, 15, k), k);
        }
        // c, a, e, b: when 4, 3, 2, 1 are left 2, 0, 3, 1 goes; 7 * many mod 5 tells which.
        NightDoors between = Check.dreaming(fears
            + "byday min((number-(many*7-many*7/5*5)+1)*(number-(many*7-many*7/5*5)+1),1);");
        int[] due = {2, 0, 3, 1};
        Check.due("an order between", between.days(0, 15, -1), 0);
        for (int k = 0; k < 4; k++) {
            Check.due("an order between, " + k, between.days(0, 15, k), due[k]);
        }
    }

    // "each met BY DAY once", also when that is no help
    private static void daysEachMet() {
        NightDoors x = two(1, 1, "byday weigh+4;meet weigh-1;");
        int[] rooms = {2, 6, 6, 10};
        int[] first = {-1, 0, 1, 0};
        for (int set = 0; set < 4; set++) {
            Check.due("set " + set, x.days(0, set, -1), rooms[set]);
            Check.due("set " + set + ", the first", x.days(0, set, 0), first[set]);
        }
        NightDoors y = two(1, 0, "byday weigh+10;meet weigh-1;");
        Check.due("none is soonest", y.days(0, 0, -1), 1);
        Check.due("11 ROOMS behind it", y.days(0, 1, -1), -1);
        Check.due("11 ROOMS behind it, too", y.days(0, 2, -1), -1);
    }

    // Those of the set are met, and no others: behind them there are as many ROOMS as all weights together.
    private static void daysNoOthers() {
        for (int heavy = 0; heavy < 6; heavy++) {
            NightDoors x = six("byday 0;meet weigh-1;");
            x.set(0, heavy, 5);
            for (int set = 0; set < 64; set++) {
                int left = 5 - Integer.bitCount(set & ~(1 << heavy)) + ((set >> heavy & 1) == 1 ? 0 : 5);
                Check.due("5 of " + heavy + ", set " + set, x.days(0, set, -1), Integer.bitCount(set) <= 4 ? left : -1);
            }
        }
    }

    // "days(): how many ROOMS behind them (k NONE), the k-th DREAD met. NONE .. when there are none such .. or for others."
    private static void daysSets() {
        NightDoors x = two(3, 2, "byday 0;");
        Check.due("both", x.days(0, 3, -1), 0);
        Check.due("no such DREAD", x.days(0, 4, -1), -1);
        Check.due("no such DREAD beside both", x.days(0, 7, -1), -1);
        Check.due("no WAY HOME behind it", x.days(0, 1, -1), -1);
        Check.due("no WAY HOME behind it, k 0", x.days(0, 1, 0), -1);
        Check.due("none, no WAY HOME", x.days(0, 0, -1), -1);
        for (int set : new int[] {-1, -2, 64, 1 << 30, Integer.MIN_VALUE, Integer.MAX_VALUE}) {
            Check.due("set " + set, x.days(0, set, -1), -1);
            Check.due("set " + set + ", k 0", x.days(0, set, 0), -1);
        }
        for (int k : new int[] {2, 3, 4, 20, -2, Integer.MIN_VALUE, Integer.MAX_VALUE}) {
            Check.due("k " + k, x.days(0, 3, k), -1);
        }
        for (int d : new int[] {-1, 1, 4, Integer.MIN_VALUE, Integer.MAX_VALUE}) {
            Check.due("DREAMER " + d, x.days(d, 3, -1), -1);
        }
        Check.due("nothing is done", x.dreamer(0, 2), 5);
    }

    // "till both are HOME: ROOMS, 200 at most"; "hand(): NONE when 200 are not enough"
    private static void handTwoHundred() {
        int[] weights = {100, 101, 299, 300, 301, 999};
        int[] due = {0, 1, 199, 200, -1, -1};
        for (int i = 0; i < weights.length; i++) {
            NightDoors x = down(weights[i], "dreamer e brave 1;home 100;");
            for (int first = 0; first < 2; first++) {
                Check.due("of " + weights[i], x.hand(first, 1 - first, -1), due[i]);
                Check.due("of " + weights[i] + ", the first", x.hand(first, 1 - first, 0), due[i] > 0 ? 0 : -1);
                Check.due("of " + weights[i] + ", the last", x.hand(first, 1 - first, Math.max(due[i] - 1, 0)), due[i] > 0 ? 0 : -1);
                Check.due("of " + weights[i] + ", one more", x.hand(first, 1 - first, Math.max(due[i], 0)), -1);
                Check.due("of " + weights[i] + ", 199", x.hand(first, 1 - first, 199), due[i] == 200 ? 0 : -1);
                Check.due("of " + weights[i] + ", 200", x.hand(first, 1 - first, 200), -1);
            }
        }
        // Both must be HOME: each of them needs so many.
        NightDoors both = down(102, "dreamer e brave 1;fears e a 103;home 100;");
        Check.due("both", both.hand(0, 1, -1), 3);
    }

    // "each DREAD COUNTS as both weights together; both FACE the WORST by that" (of like ones the first)
    private static void handOfLikeOnes() {
        NightDoors x = Check.dreaming("dread a;dread b;dreamer d brave 1;dreamer e brave 1;fears d a 3;fears d b 2;fears e a 1;"
            + "fears e b 2;meet 0;");
        Check.due("4 and 4", x.hand(0, 1, 0), 0);
        Check.due("then b", x.hand(0, 1, 1), 1);
        Check.due("two ROOMS", x.hand(0, 1, -1), 2);
        x.set(1, 1, 3);
        Check.due("4 and 5", x.hand(0, 1, 0), 1);
        x.set(0, 0, 5);
        Check.due("6 and 5", x.hand(0, 1, 0), 0);
        x.set(0, 0, 999);
        x.set(1, 0, 999);
        x.set(0, 1, 999);
        x.set(1, 1, 998);
        Check.due("1998 and 1997", x.hand(0, 1, 0), 0);
        x.set(1, 0, 997);
        Check.due("1996 and 1997", x.hand(0, 1, 0), 1);
    }

    // "till both are HOME .. (who is HOME comes along)", "each weight of it becomes its own SUM of meet"
    private static void handHomeComesAlong() {
        // d goes down by 10; e, HOME with 3 and home 5, goes up by 1 a ROOM: HOME together behind 2, not behind 3.
        String dream = "dread a;dreamer d brave 0;dreamer e brave 1;fears e a 3;meet weigh-10+11*brave;home 5;";
        int[] weights = {5, 6, 15, 16, 25, 26};
        int[] due = {0, 1, 1, 2, 2, -1};
        for (int i = 0; i < weights.length; i++) {
            NightDoors x = Check.dreaming(dream);
            x.set(0, 0, weights[i]);
            Check.due("of " + weights[i], x.hand(0, 1, -1), due[i]);
            Check.due("of " + weights[i] + ", by the other hand", x.hand(1, 0, -1), due[i]);
        }
        // Without DREADS both are HOME.
        Check.due("without DREADS", Check.dreaming("dreamer d brave 0;dreamer e brave 1;").hand(0, 1, -1), 0);
    }

    // "hand(): .. NONE when .. they are one, there are none such, or for others."
    private static void handWho() {
        NightDoors x = down(2, "dreamer e brave 1;");
        for (int d : new int[] {-1, 2, 4, Integer.MIN_VALUE, Integer.MAX_VALUE}) {
            Check.due("0 and " + d, x.hand(0, d, -1), -1);
            Check.due(d + " and 0", x.hand(d, 0, -1), -1);
            Check.due(d + " twice", x.hand(d, d, -1), -1);
        }
        Check.due("one", x.hand(0, 0, -1), -1);
        Check.due("one, who is HOME", x.hand(1, 1, -1), -1);
        for (int k : new int[] {2, 3, 200, -2, Integer.MIN_VALUE, Integer.MAX_VALUE}) {
            Check.due("k " + k, x.hand(0, 1, k), -1);
        }
        Check.due("the last", x.hand(0, 1, 1), 0);
        Check.due("nothing is done", x.weigh(0, 0, 0), 2);
    }

    // "AGAINST: in n ROOMS (3 at most)"; "against(): .. (0 .. 3): 1, 0; NONE when there is none such, or n can't be."
    private static void againstRooms() {
        int[][] due = {{1, 1, 1, 1}, {0, 1, 1, 1}, {0, 0, 1, 1}, {0, 0, 0, 1}, {0, 0, 0, 0}};
        for (int i = 0; i < due.length; i++) {
            NightDoors x = Check.dreaming("dread a;dreamer d brave 1;fears d a " + 10 * i + ";meet weigh-10;");
            for (int n = 0; n <= 3; n++) {
                Check.due(10 * i + " in " + n, x.against(0, n), due[i][n]);
            }
            for (int n : new int[] {-1, 4, 5, Integer.MIN_VALUE, Integer.MAX_VALUE}) {
                Check.due("n " + n, x.against(0, n), -1);
                Check.due("DREAMER " + (n == 4 ? 1 : n), x.against(n == 4 ? 1 : n, 1), -1);
            }
        }
        NightDoors one = Check.dreaming("dread a;dreamer d brave 1;fears d a 5;shun 0;");
        Check.due("with one DREAD he can't go round", one.against(0, 3), 0);
    }

    // "he is HOME, if he is ahead of a ROOM, or behind the last one"
    private static void againstHome() {
        // Behind a ROOM the dream comes first: 0 and 5 is HOME at 5, 0 and 6 is not.
        NightDoors x = two(10, 0, "meet 0;home 5;spite 5;");
        Check.due("behind the last one, 5", x.against(0, 1), 1);
        NightDoors y = two(10, 0, "meet 0;home 5;spite 6;");
        for (int n = 0; n <= 3; n++) {
            Check.due("6, in " + n, y.against(0, n), 0);
        }
        y.set(0, 0, 5);
        for (int n = 0; n <= 3; n++) {
            Check.due("HOME ahead of the first, in " + n, y.against(0, n), 1);
        }
        y.set(0, 1, 1);
        Check.due("6 is not HOME", y.against(0, 0), 0);
        // Ahead of the second ROOM he is HOME, and stays so: what a third would be is not asked.
        NightDoors z = Check.dreaming("dread a;dreamer d brave 1;fears d a 10;meet 10-weigh;home 5;spite 5;");
        Check.due("one ROOM", z.against(0, 1), 1);
        Check.due("two ROOMS", z.against(0, 2), 1);
        Check.due("three ROOMS", z.against(0, 3), 1);
    }

    // "then the dream makes one weight more by spite (999 at most)"
    private static void againstNineHundred() {
        String meet = "dread a;dreamer d brave 1;fears d a 500;meet 990-990*(weigh/999)+500*(weigh/1000);home 20;";
        // 990 and spite: 998 becomes 990 again; 999 (held or not) becomes 0; 1005 would become 500.
        int[] spites = {8, 9, 10, 15};
        int[] due = {0, 1, 1, 1};
        for (int i = 0; i < spites.length; i++) {
            Check.due("spite " + spites[i], Check.dreaming(meet + "spite " + spites[i] + ";").against(0, 2), due[i]);
        }
        NightDoors held = Check.dreaming("dread a;dreamer d brave 1;fears d a 999;meet 900-weigh/1000*400;home 998;spite 200;");
        Check.due("1100 would be HOME by 500", held.against(0, 2), 0);
    }

    // "as it likes .. whatever the dream does"
    private static void againstWhateverTheDreamDoes() {
        NightDoors x = two(4, 0, "meet 0;home 3;spite 3;");
        Check.due("either way HOME", x.against(0, 1), 1);
        // 9 0 becomes 4 0; then 7 0 is HOME by 2 and 3 more, but 4 3 only by 0 3 and 3 more.
        Check.due("not if it makes b more", two(9, 0, "meet weigh-5;home 5;spite 3;").against(0, 2), 0);
        Check.due("HOME at 6", two(9, 0, "meet weigh-5;home 6;spite 3;").against(0, 2), 1);
        Check.due("not if it makes a more", two(0, 9, "meet weigh-5;home 5;spite 3;").against(0, 2), 0);
        Check.due("HOME at 6, of b", two(0, 9, "meet weigh-5;home 6;spite 3;").against(0, 2), 1);
        // He may choose again in each ROOM, behind what the dream did.
        NightDoors w = two(10, 9, "meet 0;home 2;spite 1;");
        Check.due("one ROOM", w.against(0, 1), 0);
        Check.due("two ROOMS", w.against(0, 2), 1);
    }

    // "CHANCE: he FACES each of n ROOMS (4 at most)"; "chance(): (0 .. 4), in thousandths (floor); NONE .."
    private static void chanceRooms() {
        int[][] due = {{1000, 1000, 1000, 1000, 1000}, {0, 500, 750, 875, 937}, {0, 0, 250, 500, 687},
            {0, 0, 0, 125, 312}, {0, 0, 0, 0, 62}, {0, 0, 0, 0, 0}};
        for (int i = 0; i < due.length; i++) {
            NightDoors x = Check.dreaming("dread a;dreamer d brave 1;fears d a " + (1 << i) + ";home 1;laugh 50;");
            for (int n = 0; n <= 4; n++) {
                Check.due(i + " LAUGHS of " + n, x.chance(0, n), due[i][n]);
            }
            for (int n : new int[] {-1, 5, 6, 31, 32, Integer.MIN_VALUE, Integer.MAX_VALUE}) {
                Check.due("n " + n, x.chance(0, n), -1);
                Check.due("DREAMER " + (n == 5 ? 1 : n), x.chance(n == 5 ? 1 : n, 1), -1);
            }
        }
    }

    // "in thousandths (floor)"
    private static void chanceFloor() {
        int[][] rows = {{1, 10, 19, 29, 39}, {9, 90, 171, 246, 314}, {10, 100, 190, 271, 343}, {33, 330, 551, 699, 798},
            {99, 990, 999, 999, 999}, {100, 1000, 1000, 1000, 1000}, {0, 0, 0, 0, 0}};
        for (int[] r : rows) {
            NightDoors x = Check.dreaming("dread a;dreamer d brave 1;fears d a 2;home 1;laugh " + r[0] + ";");
            for (int n = 1; n <= 4; n++) {
                Check.due("one LAUGH by " + r[0] + " in " + n, x.chance(0, n), r[n]);
            }
        }
        int[][] all = {{1, 0}, {9, 0}, {10, 1}, {12, 1}, {13, 2}, {99, 970}, {100, 1000}};
        for (int[] r : all) {
            NightDoors x = Check.dreaming("dread a;dreamer d brave 1;fears d a 8;home 1;laugh " + r[0] + ";");
            Check.due("three LAUGHS by " + r[0], x.chance(0, 3), r[1]);
        }
    }

    // "how likely he is HOME by then": who was HOME in between is HOME, and a ROOM comes ahead of its LAUGH.
    private static void chanceOfAll() {
        NightDoors stay = Check.dreaming("dread a;dreamer d brave 1;fears d a 9;home 1;laugh 0;meet 10-weigh;");
        int[] due = {0, 1000, 1000, 1000, 1000};
        for (int n = 0; n <= 4; n++) {
            Check.due("he stays HOME, n " + n, stay.chance(0, n), due[n]);
        }
        NightDoors facing = Check.dreaming("dread a;dreamer d brave 1;fears d a 9;home 2;laugh 25;meet weigh/2;");
        Check.due("9, 4, 2 by a LAUGH", facing.chance(0, 1), 250);
        Check.due("9, 4, 2", facing.chance(0, 2), 1000);
        Check.due("without DREADS", Check.dreaming("dreamer d brave 1;").chance(0, 0), 1000);
        Check.due("nothing is done", facing.weigh(0, 0, 0), 9);
    }

    // "told(): .. 1 to 20 DREADS, a byte each: how many; NONE, refused (1), all staying, when it is none such."
    private static void toldRows() {
        NightDoors x = two(10, 0, "meet weigh-1;");
        int refused = 0;
        for (int n : new int[] {0, 1, 2, 19, 20, 21, 22, 40}) {
            boolean right = n >= 1 && n <= 20;
            Check.due("told of " + n, Check.told(x, 0, new int[n]), right ? n : -1);
            refused += right ? 0 : 1;
            Check.due("refused, " + n, x.status(1), refused);
            Check.due("the tape goes, " + n, x.end(1), false);
        }
        for (int dread : new int[] {0, 1, 2, 3, 6, 127, 128, 254, 255}) {
            for (int at = 0; at < 3; at++) {
                int[] row = new int[3];
                row[at] = dread;
                Check.due("a byte of " + dread, Check.told(x, 0, row), dread < 2 ? 3 : -1);
            }
        }
        for (int d : new int[] {-1, 1, 4, Integer.MIN_VALUE, Integer.MAX_VALUE}) {
            Check.due("DREAMER " + d, Check.told(x, d, 0), -1);
            Check.due("the tape goes", x.end(1), false);
        }
        // All staying: the row told last is a alone.
        Check.told(x, 0, 0);
        int[][] wrong = {{}, {2}, {1, 2}, new int[21]};
        for (int[] row : wrong) {
            Check.due("refused", Check.told(x, 0, row), -1);
            Check.due("a alone stays", x.fits(0, 0), 999);
            Check.due("a alone stays, the least", x.fits(0, 1), 1);
        }
        Check.due("refused, of nobody", Check.told(x, 1, 1), -1);
        Check.due("a alone stays", x.fits(0, 0), 999);
        NightDoors none = Check.dreaming("dreamer d brave 1;");
        Check.due("without DREADS", Check.told(none, 0, 0), -1);
    }

    // "FITS: weights of one DREAD, 0 to 999"
    private static void fitsAllWeights() {
        NightDoors x = two(999, 5, "home 998;");
        Check.told(x, 0, 0);
        Check.due("b, any: how many", x.fits(1, 0), 1000);
        Check.due("b, any: the least", x.fits(1, 1), 0);
        Check.due("b, any: the greatest", x.fits(1, 2), 999);
        // Not HOME: a and 5 are above 998.
        Check.due("a: how many", x.fits(0, 0), 6);
        Check.due("a: the least", x.fits(0, 1), 994);
        Check.due("a: the greatest", x.fits(0, 2), 999);
        NightDoors one = Check.dreaming("dread a;dreamer d brave 1;home 998;");
        Check.told(one, 0, 0);
        Check.due("999 alone", one.fits(0, 0), 1);
        Check.due("999 alone, the least", one.fits(0, 1), 999);
        Check.due("999 alone, the greatest", one.fits(0, 2), 999);
        NightDoors none = Check.dreaming("dread a;dreamer d brave 1;home 999;");
        Check.told(none, 0, 0);
        Check.due("none", none.fits(0, 0), 0);
        Check.due("none, the least", none.fits(0, 1), -1);
        Check.due("none, the greatest", none.fits(0, 2), -1);
    }

    // "(he is not HOME ahead of the last one)"
    private static void fitsNotHomeAhead() {
        NightDoors x = Check.dreaming("dread a;dreamer d brave 1;meet weigh-10;home 5;");
        for (int rooms = 1; rooms <= 20; rooms++) {
            Check.told(x, 0, new int[rooms]);
            int least = 10 * (rooms - 1) + 6;
            Check.due(rooms + " ROOMS, the least", x.fits(0, 1), least);
            Check.due(rooms + " ROOMS, the greatest", x.fits(0, 2), 999);
            Check.due(rooms + " ROOMS, how many", x.fits(0, 0), 1000 - least);
        }
        Check.due("nothing is done", x.weigh(0, 0, 0), 0);
    }

    // "fits(): .. NONE when nothing was TOLD, there is none such, or for others."
    private static void fitsWhat() {
        NightDoors x = two(10, 5, "");
        for (int what = 0; what <= 2; what++) {
            Check.due("nothing was TOLD, " + what, x.fits(0, what), -1);
        }
        Check.told(x, 0, 0);
        for (int what : new int[] {-1, 3, 4, Integer.MIN_VALUE, Integer.MAX_VALUE}) {
            Check.due("what " + what, x.fits(0, what), -1);
        }
        for (int dread : new int[] {-1, 2, 3, 6, Integer.MIN_VALUE, Integer.MAX_VALUE}) {
            for (int what = 0; what <= 2; what++) {
                Check.due("DREAD " + dread + ", " + what, x.fits(dread, what), -1);
            }
        }
        Check.due("the last DREAD", x.fits(1, 0), 11);
    }
}
