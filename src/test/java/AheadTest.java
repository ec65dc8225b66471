/** Promises 11 (room), 12 (later), 13 (till), 14 (again). */
public final class AheadTest {
    public static void main(String[] args) {
        aRow();
        theLimit();
        comesAgain();
        withGuide();
        noneSuch();
        eachByItself();
        Check.end();
    }

    private static void aRow() {
        // 30 20 5, then 15 20 5, 15 10 5, 7 10 5: 22 is HOME
        NightDoors x = Check.dreaming("dread a;dread b;dread c;dreamer d brave 1;fears d a 30;fears d b 20;"
            + "fears d c 5;meet weigh/2;shun 999;home 22;");
        int[] rooms = {0, 1, 0, -1, -1};
        int[][] weights = {{30, 20, 5}, {15, 20, 5}, {15, 10, 5}, {7, 10, 5}, {7, 10, 5}};
        for (int k = 0; k < rooms.length; k++) {
            Check.due("room(0, " + k + ")", x.room(0, k), rooms[k]);
            for (int i = 0; i < 3; i++) {
                Check.due("later(0, " + i + ", " + k + ")", x.later(0, i, k), weights[k][i]);
            }
        }
        Check.due("room(0, -1)", x.room(0, -1), -1);
        Check.due("later(0, 0, -1)", x.later(0, 0, -1), -1);
        Check.due("later(0, 0, 200)", x.later(0, 0, 200), 7);
        Check.due("later(0, 0, 201)", x.later(0, 0, 201), -1);
        Check.due("later(0, 3, 0)", x.later(0, 3, 0), -1);
        Check.due("till(0)", x.till(0), 3);
        Check.due("again(0, 0)", x.again(0, 0), -1);
        Check.due("nothing is done", x.weigh(0, 0, 0), 30);
        x.set(0, 0, 0);
        x.set(0, 1, 17);
        Check.due("till(0), HOME now", x.till(0), 0);
        Check.due("room(0, 0), HOME now", x.room(0, 0), -1);
        Check.due("later(0, 1, 9), HOME now", x.later(0, 1, 9), 17);
    }

    private static void theLimit() {
        NightDoors x = Check.dreaming("dread a;dreamer d brave 1;fears d a 300;meet weigh-1;home 100;");
        Check.due("till(0), 200 are enough", x.till(0), 200);
        Check.due("room(0, 199)", x.room(0, 199), 0);
        Check.due("room(0, 200)", x.room(0, 200), -1);
        Check.due("later(0, 0, 200)", x.later(0, 0, 200), 100);
        x.set(0, 0, 301);
        Check.due("till(0), 200 are not enough", x.till(0), -1);
        Check.due("room(0, 199)", x.room(0, 199), 0);
        Check.due("room(0, 200)", x.room(0, 200), -1);
        Check.due("later(0, 0, 200)", x.later(0, 0, 200), 101);
        Check.due("again(0, 0)", x.again(0, 0), -1);
    }

    private static void comesAgain() {
        NightDoors x = Check.dreaming("dread a;dreamer d brave 1;fears d a 9;");
        Check.due("again(0, 0), without meet", x.again(0, 0), 1);
        Check.due("again(0, 1), without meet", x.again(0, 1), 1);
        Check.due("till(0), for ever", x.till(0), -1);
        // 50 40 30 20 10 50: the first that comes again is 50, 5 ROOMS later
        NightDoors y = Check.dreaming("dread a;dreamer d brave 1;fears d a 50;meet max(weigh-10,(20-weigh)*5);");
        Check.due("again(0, 0), a round", y.again(0, 0), 5);
        Check.due("again(0, 1), a round", y.again(0, 1), 5);
        y.set(0, 0, 70);
        Check.due("again(0, 0), behind a way there", y.again(0, 0), 7);
        Check.due("again(0, 1), behind a way there", y.again(0, 1), 5);
        Check.due("again(0, 2)", y.again(0, 2), -1);
        Check.due("again(0, -1)", y.again(0, -1), -1);
        // Two DREADS, all weights must be alike: 14-9, 14-5 by turns.
        NightDoors z = Check.dreaming("dread a;dread b;dreamer d brave 1;fears d a 9;fears d b 5;meet 14-weigh;");
        Check.due("again(0, 0), by turns", z.again(0, 0), 2);
        Check.due("again(0, 1), by turns", z.again(0, 1), 2);
        // A round of 199 ROOMS: 300 .. 498 and on from 300.
        NightDoors w = Check.dreaming("dread a;dreamer d brave 1;fears d a 300;meet weigh+1-weigh/498*199;");
        Check.due("again(0, 0), 199", w.again(0, 0), 199);
        Check.due("again(0, 1), 199", w.again(0, 1), 199);
        // Ahead of the ROOMS 0 to 199 all are unlike: what comes again behind the last one is ahead of none.
        w.set(0, 0, 299);
        Check.due("again(0, 0), behind the 200th ROOM", w.again(0, 0), -1);
        Check.due("again(0, 1), behind the 200th ROOM", w.again(0, 1), -1);
        w.set(0, 0, 298);
        Check.due("again(0, 0), later still", w.again(0, 0), -1);
        Check.due("again(0, 1), later still", w.again(0, 1), -1);
        // 800 to 999, where it stays.
        NightDoors v = Check.dreaming("dread a;dreamer b brave 0;fears b a 800;meet weigh+1;");
        Check.due("again(0, 0), held behind the 200th ROOM", v.again(0, 0), -1);
        Check.due("again(0, 1), held behind the 200th ROOM", v.again(0, 1), -1);
        v.set(0, 0, 801);
        Check.due("again(0, 0), held ahead of the 200th ROOM", v.again(0, 0), 199);
        Check.due("again(0, 1), held ahead of the 200th ROOM", v.again(0, 1), 1);
    }

    private static void withGuide() {
        // Alone a is the WORST; with the guide of b it is b, which goes down by 5 to below half of a.
        NightDoors x = Check.dreaming("dread a;dread b;dreamer d brave 5;guide g of b;fears d a 40;fears d b 20;"
            + "meet weigh-brave;home 50;");
        Check.due("room(0, 0), alone", x.room(0, 0), 0);
        Check.due("till(0), alone", x.till(0), 2);
        x.take(0, 0);
        Check.due("room(0, 0), led", x.room(0, 0), 1);
        Check.due("room(0, 1), led", x.room(0, 1), 1);
        Check.due("later(0, 1, 2), led", x.later(0, 1, 2), 10);
        Check.due("till(0), led", x.till(0), 2);
    }

    private static void eachByItself() {
        String dream = "dread a;dreamer d brave 1;fears d a 9;meet weigh-2;home 1;";
        Check.due("room first of all", Check.dreaming(dream).room(0, 3), 0);
        Check.due("later first of all", Check.dreaming(dream).later(0, 0, 3), 3);
        Check.due("till first of all", Check.dreaming(dream).till(0), 4);
        Check.due("again first of all", Check.dreaming("dread a;dreamer d brave 1;fears d a 9;").again(0, 0), 1);
        NightDoors x = Check.dreaming(dream);
        x.room(0, 0);
        x.set(0, 0, 6);
        Check.due("later behind an ACT", x.later(0, 0, 1), 4);
    }

    private static void noneSuch() {
        NightDoors x = Check.dreaming("dreamer d brave 5;");
        Check.due("till(0), without DREADS", x.till(0), 0);
        Check.due("room(0, 0), without DREADS", x.room(0, 0), -1);
        Check.due("later(0, 0, 0), without DREADS", x.later(0, 0, 0), -1);
        Check.due("again(0, 0), without DREADS", x.again(0, 0), -1);
        for (int d : new int[] {-1, 1, 4, Integer.MAX_VALUE, Integer.MIN_VALUE}) {
            Check.due("till(" + d + ")", x.till(d), -1);
            Check.due("room(" + d + ", 0)", x.room(d, 0), -1);
            Check.due("later(" + d + ", 0, 0)", x.later(d, 0, 0), -1);
            Check.due("again(" + d + ", 0)", x.again(d, 0), -1);
        }
    }
}
