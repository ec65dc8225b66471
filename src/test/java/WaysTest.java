/** Promises 15 (soonest), 16 (least), 17 (along), 18 (days), 19 (hand), 20 (against), 21 (chance). */
public final class WaysTest {
    public static void main(String[] args) {
        soonest();
        least();
        along();
        days();
        hand();
        against();
        chance();
        noneSuch();
        Check.end();
    }

    private static String two(int a, int b, String more) {
        return "dread a;dread b;dreamer d brave 1;fears d a " + a + ";fears d b " + b + ";" + more;
    }

    private static void soonest() {
        NightDoors x = Check.dreaming(two(5, 3, "meet 0;shun 0;"));
        Check.due("round is sooner", x.soonest(0, -1), 1);
        Check.due("he goes round", x.soonest(0, 0), 1);
        Check.due("behind the way", x.soonest(0, 1), -1);
        Check.due("k -2", x.soonest(0, -2), -1);
        NightDoors y = Check.dreaming(two(5, 3, "meet 0;shun 0;home 3;"));
        Check.due("both ways are one ROOM", y.soonest(0, -1), 1);
        Check.due("FACES goes ahead", y.soonest(0, 0), 0);
        NightDoors z = Check.dreaming(two(8, 6, "meet weigh-4;shun weigh-3;home 3;"));
        // FACE, FACE: 4 2, no WAY; FACE, round: 0 3, HOME; round, FACE: 1 2, HOME, but behind that.
        Check.due("two ROOMS", z.soonest(0, -1), 2);
        Check.due("first he FACES", z.soonest(0, 0), 0);
        Check.due("then he goes round", z.soonest(0, 1), 1);
        NightDoors one = Check.dreaming("dread a;dreamer d brave 1;fears d a 10;meet weigh-1;shun 0;");
        Check.due("ten ROOMS", one.soonest(0, -1), 10);
        Check.due("the tenth", one.soonest(0, 9), 0);
        Check.due("the eleventh", one.soonest(0, 10), -1);
        one.set(0, 0, 11);
        Check.due("eleven ROOMS", one.soonest(0, -1), -1);
        Check.due("eleven ROOMS, k 0", one.soonest(0, 0), -1);
        one.set(0, 0, 0);
        Check.due("HOME now", one.soonest(0, -1), 0);
        Check.due("HOME now, k 0", one.soonest(0, 0), -1);
    }

    private static void least() {
        NightDoors x = Check.dreaming(two(5, 3, "meet 0;shun 0;"));
        Check.due("the dread of b alone", x.least(0, -1), 3);
        Check.due("one ROOM", x.least(0, 20), 1);
        Check.due("round", x.least(0, 0), 1);
        Check.due("k 1", x.least(0, 1), -1);
        Check.due("k 19", x.least(0, 19), -1);
        Check.due("k 21", x.least(0, 21), -1);
        // With b, 1, then with b, 0, till a is 60.
        NightDoors y = Check.dreaming(two(100, 1, "meet weigh/2;shun weigh-10;home 60;"));
        Check.due("soonest", y.soonest(0, -1), 1);
        Check.due("less dread by more ROOMS", y.least(0, -1), 1);
        Check.due("so many", y.least(0, 20), 4);
        Check.due("the third of them", y.least(0, 2), 1);
        // FACE a, FACE b: 8; round with b, FACE a: 8 too; the first counts.
        NightDoors z = Check.dreaming(two(4, 4, "meet 0;"));
        Check.due("like dreads", z.least(0, -1), 8);
        Check.due("like dreads, rooms", z.least(0, 20), 2);
        Check.due("like dreads, the first", z.least(0, 0), 0);
        // Weights, not what they COUNT: with the guide of b he is with b (20 by its weight).
        NightDoors g = Check.dreaming(two(30, 20, "guide g of b;meet 0;shun weigh;home 30;"));
        g.take(0, 0);
        Check.due("the weight of b", g.least(0, -1), 20);
        NightDoors ten = Check.dreaming("dread a;dreamer d brave 1;fears d a 10;meet weigh-1;byday weigh;");
        Check.due("ten ROOMS, dread", ten.least(0, -1), 55);
        Check.due("ten ROOMS", ten.least(0, 20), 10);
        Check.due("ten ROOMS, along", ten.along(0, 1), 10);
        Check.due("ten ROOMS, days", ten.days(0, 1, -1), 10);
        Check.due("ten ROOMS, the day", ten.days(0, 1, 0), 0);
        ten.set(0, 0, 11);
        Check.due("eleven ROOMS, dread", ten.least(0, -1), -1);
        Check.due("eleven ROOMS", ten.least(0, 20), -1);
        Check.due("eleven ROOMS, along", ten.along(0, 1), -1);
        Check.due("eleven ROOMS, days", ten.days(0, 1, -1), -1);
        NightDoors h = Check.dreaming(two(2, 1, "home 3;"));
        Check.due("HOME now", h.least(0, -1), 0);
        Check.due("HOME now, rooms", h.least(0, 20), 0);
        h.set(0, 0, 3);
        Check.due("no WAY HOME", h.least(0, -1), -1);
        Check.due("no WAY HOME, rooms", h.least(0, 20), -1);
        Check.due("no WAY HOME, k 0", h.least(0, 0), -1);
    }

    private static void along() {
        // Only c can be met: with the guide of c he FACES it at once, alone he goes round to it.
        NightDoors x = Check.dreaming("dread a;dread b;dread c;dreamer d brave 1;guide g of a;guide h of c;guide i of c;"
            + "fears d a 10;fears d b 9;fears d c 8;meet weigh*(2-number)/2;home 19;");
        Check.due("alone", x.soonest(0, -1), 2);
        Check.due("with h", x.along(0, 0), 2);
        Check.due("rooms with h", x.along(0, 1), 1);
        x.take(0, 0);
        Check.due("whoever is along now", x.along(0, 0), 2);
        x.take(0, 2);
        Check.due("with i", x.soonest(0, -1), 1);
        Check.due("of like ones the first", x.along(0, 0), 2);
        Check.due("what 2", x.along(0, 2), -1);
        Check.due("what -1", x.along(0, -1), -1);
        x.set(0, 2, 0);
        Check.due("nobody is needed", x.along(0, 0), 0);
        Check.due("nobody is needed, rooms", x.along(0, 1), 0);
        // A guide of a would help, but there is none.
        NightDoors no = Check.dreaming("dread a;dread b;dread c;dreamer d brave 1;fears d a 8;fears d b 10;fears d c 9;"
            + "meet weigh*min(number,1);home 19;");
        Check.due("no such GUIDE", no.along(0, 0), -1);
        NightDoors y = Check.dreaming(two(10, 9, "guide g of a;"));
        Check.due("no WAY HOME with any", y.along(0, 0), -1);
        Check.due("no WAY HOME with any, rooms", y.along(0, 1), -1);
    }

    private static void days() {
        // a first: 10-10, 6-6; b first: 10-6, 4-4.
        NightDoors x = Check.dreaming(two(10, 6, "byday worst-weigh;meet weigh/2;"));
        Check.due("a and b", x.days(0, 3, -1), 0);
        Check.due("a first", x.days(0, 3, 0), 0);
        Check.due("then b", x.days(0, 3, 1), 1);
        Check.due("no third", x.days(0, 3, 2), -1);
        Check.due("k -2", x.days(0, 3, -2), -1);
        Check.due("nothing is done", x.weigh(0, 0, 0), 10);
        // a first: 10-6, 10-10, then 2, 1, 0; b first: 0, 0.
        NightDoors y = Check.dreaming(two(6, 10, "byday worst-weigh;meet weigh/2;"));
        Check.due("b and a", y.days(0, 3, -1), 0);
        Check.due("b first", y.days(0, 3, 0), 1);
        Check.due("then a", y.days(0, 3, 1), 0);
        Check.due("a alone", y.days(0, 1, -1), 7);
        Check.due("none", y.days(0, 0, -1), y.soonest(0, -1));
        Check.due("none, k 0", y.days(0, 0, 0), -1);
        Check.due("set 4", y.days(0, 4, -1), -1);
        Check.due("set -1", y.days(0, -1, -1), -1);
        Check.due("set MIN", y.days(0, Integer.MIN_VALUE, -1), -1);
        NightDoors z = Check.dreaming("dread a;dread b;dread c;dread d;dread e;dread f;dreamer g brave 1;"
            + "fears g a 7;fears g f 1;byday 0;home 7;");
        Check.due("five", z.days(0, 31, -1), -1);
        Check.due("six", z.days(0, 63, -1), -1);
        Check.due("no such DREAD", z.days(0, 64, -1), -1);
        Check.due("four", z.days(0, 58, -1), 0);
        Check.due("four, the first order", z.days(0, 58, 2), 4);
        Check.due("four, the last", z.days(0, 58, 3), 5);
        Check.due("not enough", z.days(0, 30, -1), -1);
        Check.due("not enough, k 0", z.days(0, 30, 0), -1);
    }

    private static void hand() {
        String dream = "dread a;dread b;dreamer d brave 1;dreamer e brave 2;guide g of a;guide h of b;"
            + "fears d a 5;fears d b 4;fears e b 2;meet weigh-brave;home 5;";
        NightDoors x = Check.dreaming(dream);
        // b: 3 and 0; a: 4; a: 3; a of 3 and 3, the first: 2
        int[] due = {1, 0, 0, 0, -1};
        Check.due("rooms", x.hand(0, 1, -1), 4);
        for (int k = 0; k < due.length; k++) {
            Check.due("hand(0, 1, " + k + ")", x.hand(0, 1, k), due[k]);
            Check.due("hand(1, 0, " + k + ")", x.hand(1, 0, k), due[k]);
        }
        Check.due("k -2", x.hand(0, 1, -2), -1);
        x.take(0, 0);
        x.take(1, 0);
        Check.due("GUIDES count for nothing", x.hand(0, 1, 0), 1);
        Check.due("one hand", x.hand(0, 0, -1), -1);
        Check.due("nobody's", x.hand(0, 2, -1), -1);
        Check.due("nobody's", x.hand(-1, 1, -1), -1);
        x.set(0, 0, 1);
        Check.due("both HOME", x.hand(0, 1, -1), 0);
        Check.due("both HOME, k 0", x.hand(0, 1, 0), -1);
        // Who is HOME comes along: e's weight grows by what d meets.
        NightDoors y = Check.dreaming("dread a;dreamer d brave 1;dreamer e brave 0;fears d a 9;"
            + "meet weigh+3-6*brave;home 3;");
        Check.due("e leaves HOME as d comes there", y.hand(0, 1, -1), -1);
        NightDoors z = Check.dreaming("dread a;dreamer d brave 1;dreamer e brave 0;fears d a 300;meet weigh-1;home 100;");
        Check.due("200 are enough", z.hand(0, 1, -1), 200);
        Check.due("the last one", z.hand(0, 1, 199), 0);
        z.set(0, 0, 301);
        Check.due("200 are not enough", z.hand(0, 1, -1), -1);
        Check.due("200 are not enough, k 0", z.hand(0, 1, 0), -1);
        NightDoors w = Check.dreaming("dreamer d brave 1;dreamer e brave 1;");
        Check.due("without DREADS", w.hand(0, 1, -1), 0);
    }

    private static void against() {
        NightDoors x = Check.dreaming(two(10, 0, "meet 0;home 5;spite 5;"));
        Check.due("no ROOM", x.against(0, 0), 0);
        Check.due("one ROOM", x.against(0, 1), 1);
        Check.due("n -1", x.against(0, -1), -1);
        Check.due("n 4", x.against(0, 4), -1);
        x.set(0, 0, 5);
        Check.due("HOME now", x.against(0, 0), 1);
        Check.due("HOME now, n 3", x.against(0, 3), 1);
        NightDoors y = Check.dreaming(two(10, 0, "meet 0;home 5;spite 6;"));
        Check.due("too much spite", y.against(0, 3), 0);
        // FACE a: 0 7, and 3 more: no. Round: 10 becomes 1, 7 becomes 0, and 3 more: 4.
        NightDoors r = Check.dreaming(two(10, 7, "meet 0;shun 1;home 5;spite 3;"));
        Check.due("he goes round", r.against(0, 1), 1);
        // In the first ROOM he can't, in the second he can, whichever the dream makes more.
        NightDoors t = Check.dreaming(two(10, 9, "meet 0;home 2;spite 1;"));
        Check.due("two like ones, one ROOM", t.against(0, 1), 0);
        Check.due("two like ones, two ROOMS", t.against(0, 2), 1);
        // Of 900 it makes 1100, held at 999: of that again 900; 1100 would be 500, and 700 HOME.
        NightDoors c = Check.dreaming("dread a;dreamer d brave 1;fears d a 999;"
            + "meet 900-weigh/1000*400;home 998;spite 200;");
        Check.due("999 at most", c.against(0, 2), 0);
        NightDoors three = Check.dreaming("dread a;dread b;dread c;dreamer d brave 1;fears d a 9;fears d b 9;fears d c 9;"
            + "meet 0;");
        Check.due("three, two ROOMS", three.against(0, 2), 0);
        Check.due("three, three ROOMS", three.against(0, 3), 1);
        NightDoors w = Check.dreaming("dreamer d brave 1;");
        Check.due("without DREADS", w.against(0, 0), 1);
    }

    private static void chance() {
        NightDoors x = Check.dreaming("dread a;dreamer d brave 1;fears d a 8;home 2;laugh 30;");
        // He needs two laughs of three in ten.
        int[] due = {0, 0, 90, 216, 348};
        for (int n = 0; n < due.length; n++) {
            Check.due("two laughs in " + n, x.chance(0, n), due[n]);
        }
        Check.due("n 5", x.chance(0, 5), -1);
        Check.due("n -1", x.chance(0, -1), -1);
        x.set(0, 0, 2);
        Check.due("HOME now", x.chance(0, 0), 1000);
        Check.due("HOME now, n 4", x.chance(0, 4), 1000);
        // One laugh of one in a hundred, four times: 0.03940399.
        NightDoors y = Check.dreaming("dread a;dreamer d brave 1;fears d a 4;home 2;laugh 1;");
        Check.due("floor", y.chance(0, 4), 39);
        // He FACES first: 9 becomes 4, a laugh makes 2; then 4 becomes 2 anyway.
        NightDoors z = Check.dreaming("dread a;dreamer d brave 1;fears d a 9;home 2;laugh 25;meet weigh/2;");
        Check.due("a ROOM, then a laugh", z.chance(0, 1), 250);
        Check.due("two ROOMS", z.chance(0, 2), 1000);
        NightDoors never = Check.dreaming("dread a;dreamer d brave 1;fears d a 9;home 2;");
        Check.due("without laughs", never.chance(0, 4), 0);
        NightDoors always = Check.dreaming("dread a;dreamer d brave 1;fears d a 9;home 4;laugh 100;");
        Check.due("laughs always", always.chance(0, 1), 1000);
        // HOME is where he stays: the ROOM that would make 9 of 1 is not met any more.
        NightDoors stay = Check.dreaming("dread a;dreamer d brave 1;fears d a 9;home 1;laugh 50;meet 10-weigh;");
        Check.due("he stays HOME", stay.chance(0, 4), 1000);
    }

    private static void noneSuch() {
        NightDoors x = Check.dreaming("dreamer d brave 5;");
        Check.due("soonest without DREADS", x.soonest(0, -1), 0);
        Check.due("least without DREADS", x.least(0, -1), 0);
        Check.due("along without DREADS", x.along(0, 0), 0);
        Check.due("days without DREADS", x.days(0, 0, -1), 0);
        Check.due("days of a DREAD, without", x.days(0, 1, -1), -1);
        Check.due("chance without DREADS", x.chance(0, 4), 1000);
        for (int d : new int[] {-1, 1, 4, Integer.MAX_VALUE, Integer.MIN_VALUE}) {
            Check.due("soonest(" + d + ")", x.soonest(d, -1), -1);
            Check.due("least(" + d + ")", x.least(d, -1), -1);
            Check.due("along(" + d + ")", x.along(d, 0), -1);
            Check.due("days(" + d + ")", x.days(d, 0, -1), -1);
            Check.due("hand(" + d + ")", x.hand(0, d, -1), -1);
            Check.due("against(" + d + ")", x.against(d, 1), -1);
            Check.due("chance(" + d + ")", x.chance(d, 1), -1);
        }
    }
}
