/** Promises 22 (meet), 23 (day), 24 (take), 25 (set), 26 (night), 27 (undo), 28 (seed). */
public final class ActsTest {
    private static final String DREAM = "dread a;dread b;dread c;dreamer d brave 2;dreamer e brave 3;guide g of c;"
        + "guide h of b;fears d a 20;fears d b 15;fears d c 9;fears e a 1;"
        + "meet weigh-brave;shun weigh+many;byday weigh*2-number;home 10;";

    public static void main(String[] args) {
        meet();
        day();
        take();
        set();
        night();
        undo();
        seed();
        Check.end();
    }

    private static void weights(String how, NightDoors x, int dreamer, int... due) {
        for (int i = 0; i < due.length; i++) {
            Check.due("weight " + i + " " + how, x.weigh(dreamer, i, 0), due[i]);
        }
    }

    private static void meet() {
        NightDoors x = Check.dreaming(DREAM);
        Check.due("he FACES", x.meet(0, false), 0);
        weights("he FACES", x, 0, 18, 15, 9);
        Check.due("he GOES ROUND", x.meet(0, true), 1);
        weights("he GOES ROUND", x, 0, 21, 13, 9);
        x.take(0, 0);
        Check.due("led, he FACES", x.meet(0, false), 2);
        weights("led, he FACES", x, 0, 21, 13, 7);
        Check.due("led, he GOES ROUND", x.meet(0, true), 0);
        weights("led, he GOES ROUND", x, 0, 19, 13, 10);
        weights("the other's", x, 1, 1, 0, 0);
        Check.due("has(7)", x.has(7), 5);
        Check.due("who is HOME", x.meet(1, false), -1);
        Check.due("nobody", x.meet(2, false), -1);
        Check.due("nobody", x.meet(-1, true), -1);
        Check.due("status(2)", x.status(2), 3);
        Check.due("has(7), refused aside", x.has(7), 5);
        NightDoors y = Check.dreaming("dread a;dreamer d brave 2;fears d a 5;");
        Check.due("round with one DREAD", y.meet(0, true), -1);
        Check.due("is refused", y.status(2), 1);
        Check.due("is no ACT", y.has(7), 0);
        Check.due("one DREAD, without meet", y.meet(0, false), 0);
        weights("without meet", y, 0, 5);
        NightDoors z = Check.dreaming("dreamer d brave 2;");
        Check.due("without DREADS", z.meet(0, false), -1);
        // Both by all as it is ahead: 5 + 3 = 8 each, not by one another's.
        NightDoors w = Check.dreaming("dread a;dread b;dreamer d brave 2;fears d a 5;fears d b 3;meet sum;shun sum;");
        Check.due("with b", w.meet(0, true), 1);
        weights("both ahead of it", w, 0, 8, 8);
        NightDoors v = Check.dreaming("dread a;dread b;dreamer d brave 2;fears d a 500;fears d b 30;"
            + "meet weigh-31;shun weigh*2;");
        v.meet(0, true);
        weights("0 .. 999", v, 0, 999, 0);
    }

    private static void day() {
        NightDoors x = Check.dreaming(DREAM);
        Check.due("b by day", x.day(0, 1), 29);
        weights("b by day", x, 0, 20, 29, 9);
        Check.due("who is HOME can, too", x.day(1, 0), 2);
        Check.due("0 .. 999", x.day(1, 1), 0);
        Check.due("has(7)", x.has(7), 3);
        Check.due("no such DREAD", x.day(0, 3), -1);
        Check.due("no such DREAD", x.day(0, -1), -1);
        Check.due("nobody", x.day(2, 0), -1);
        Check.due("status(2)", x.status(2), 3);
        NightDoors y = Check.dreaming("dread a;dreamer d brave 2;fears d a 5;");
        Check.due("without byday", y.day(0, 0), 5);
        Check.due("without byday, an ACT", y.has(7), 1);
    }

    private static void take() {
        NightDoors x = Check.dreaming(DREAM);
        Check.due("nobody is along", x.take(0, -1), false);
        Check.due("g", x.take(0, 0), true);
        Check.due("g for e, too", x.take(1, 0), true);
        Check.due("g again", x.take(0, 0), false);
        Check.due("h", x.take(0, 1), true);
        Check.due("no such GUIDE", x.take(0, 2), false);
        Check.due("no such GUIDE", x.take(0, -2), false);
        Check.due("no such DREAMER", x.take(2, 0), false);
        Check.due("h is along", x.dreamer(0, 1), 1);
        Check.due("he leaves", x.take(0, -1), true);
        Check.due("nobody is along", x.dreamer(0, 1), -1);
        Check.due("g is still along with e", x.dreamer(1, 1), 0);
        Check.due("status(2)", x.status(2), 5);
        Check.due("has(7)", x.has(7), 4);
    }

    private static void set() {
        NightDoors x = Check.dreaming(DREAM);
        Check.due("what it was", x.set(0, 1, 999), 15);
        Check.due("what it was", x.set(0, 1, 0), 999);
        weights("set", x, 0, 20, 0, 9);
        Check.due("1000", x.set(0, 1, 1000), -1);
        Check.due("-1", x.set(0, 1, -1), -1);
        Check.due("no such DREAD", x.set(0, 3, 1), -1);
        Check.due("no such DREAMER", x.set(-1, 0, 1), -1);
        Check.due("status(2)", x.status(2), 4);
        Check.due("has(7)", x.has(7), 2);
    }

    // From the seed 1 on: DRAWS of 2 and of 100 by turns are 0 99, 0 80, 0 14, 0 52, 1 19, 0 87.
    private static void night() {
        NightDoors x = Check.dreaming("dread a;dread b;dreamer d brave 2;fears d a 100;fears d b 90;"
            + "meet weigh-10;shun weigh+5;laugh 20;");
        Check.due("n 0", x.night(0, 0), -1);
        Check.due("n 101", x.night(0, 101), -1);
        Check.due("nobody", x.night(1, 1), -1);
        Check.due("status(2)", x.status(2), 3);
        Check.due("two ROOMS", x.night(0, 2), 2);
        weights("FACE, FACE", x, 0, 80, 90);
        Check.due("three more", x.night(0, 3), 3);
        weights("FACE and laugh, FACE, round and laugh", x, 0, 10, 22);
        Check.due("one more", x.night(0, 1), 1);
        weights("FACE", x, 0, 10, 12);
        Check.due("a night is one ACT", x.has(7), 3);
        x.undo();
        x.undo();
        weights("undone", x, 0, 80, 90);
        // The seed stays: the next DRAWS are the 13th and on.
        NightDoors y = Check.dreaming("dread a;dreamer d brave 2;fears d a 20;meet weigh-10;laugh 15;");
        Check.due("till HOME", y.night(0, 100), 2);
        Check.due("HOME", y.weigh(0, 0, 0), 0);
        Check.due("HOME already", y.night(0, 100), 0);
        Check.due("a night of no ROOM is an ACT", y.has(7), 2);
        y.set(0, 0, 100);
        Check.due("no more DRAWS were there", y.night(0, 1), 1);
        weights("FACE and laugh by the sixth", y, 0, 45);
        // From 5 on the first is 1: with one DREAD he FACES it in any case.
        y.seed(5);
        Check.due("one DREAD", y.night(0, 1), 1);
        weights("one DREAD", y, 0, 35);
        NightDoors z = Check.dreaming("dreamer d brave 2;");
        Check.due("without DREADS", z.night(0, 3), 0);
        NightDoors w = Check.dreaming("dread a;dreamer d brave 2;fears d a 500;laugh 0;");
        Check.due("a hundred", w.night(0, 100), 100);
        weights("without meet", w, 0, 500);
    }

    private static void undo() {
        NightDoors x = Check.dreaming(DREAM);
        Check.due("nothing", x.undo(), false);
        Check.due("status(3)", x.status(3), 1);
        x.meet(0, true);
        x.take(0, 1);
        x.set(1, 2, 7);
        x.day(0, 0);
        Check.due("has(7)", x.has(7), 4);
        Check.due("the day", x.undo(), true);
        weights("the day undone", x, 0, 23, 13, 9);
        Check.due("the weight", x.undo(), true);
        weights("the weight undone", x, 1, 1, 0, 0);
        Check.due("h is along", x.dreamer(0, 1), 1);
        Check.due("the GUIDE", x.undo(), true);
        Check.due("nobody is along", x.dreamer(0, 1), -1);
        weights("still round", x, 0, 23, 13, 9);
        Check.due("the ROOM", x.undo(), true);
        weights("all undone", x, 0, 20, 15, 9);
        Check.due("has(7)", x.has(7), 0);
        Check.due("nothing more", x.undo(), false);
        for (int i = 1; i <= 25; i++) {
            x.set(0, 0, i);
            Check.due("has(7)", x.has(7), Math.min(i, 20));
        }
        for (int i = 24; i >= 5; i--) {
            Check.due("undo to " + i, x.undo(), true);
            weights("undone", x, 0, i);
        }
        Check.due("the 21st", x.undo(), false);
        weights("stays", x, 0, 5);
        x.set(0, 0, 77);
        x.undo();
        weights("one more, undone", x, 0, 5);
    }

    private static void seed() {
        NightDoors x = Check.dreaming("dread a;dread b;dreamer d brave 2;fears d a 100;fears d b 90;meet weigh-10;");
        Check.due("seed -1", x.seed(-1), false);
        Check.due("seed MIN", x.seed(Integer.MIN_VALUE), false);
        Check.due("status(4)", x.status(4), 2);
        Check.due("seed 0", x.seed(0), true);
        Check.due("seed MAX", x.seed(Integer.MAX_VALUE), true);
        Check.due("no ACT", x.has(7), 0);
        // Its first DRAWS are 1 99, then 0: he goes round, then FACES.
        x.night(0, 1);
        weights("round", x, 0, 100, 80);
        x.night(0, 1);
        weights("FACE", x, 0, 90, 80);
        x.undo();
        x.seed(1);
        x.night(0, 1);
        weights("FACE by 1", x, 0, 90, 80);
    }
}
