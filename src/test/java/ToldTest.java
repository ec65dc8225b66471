/** Promises 29 (told), 30 (fits). */
public final class ToldTest {
    private static final String DREAM = "dread a;dread b;dreamer d brave 2;dreamer e brave 2;guide g of b;"
        + "fears d a 10;fears d b 7;meet weigh-4;home 5;";

    public static void main(String[] args) {
        told();
        fits();
        Check.end();
    }

    private static void told() {
        NightDoors x = Check.dreaming(DREAM);
        Check.due("nothing", Check.told(x, 0), -1);
        Check.due("no such DREAD", Check.told(x, 0, 0, 2), -1);
        Check.due("no such DREAD", Check.told(x, 0, 255), -1);
        Check.due("its tape went", x.end(1), false);
        Check.due("nobody", Check.told(x, 2, 0), -1);
        Check.due("nobody", Check.told(x, -1, 0), -1);
        Check.due("21", Check.told(x, 0, new int[21]), -1);
        Check.due("status(1)", x.status(1), 6);
        Check.due("nothing was TOLD", x.fits(0, 0), -1);
        Check.due("20", Check.told(x, 0, new int[20]), 20);
        Check.due("one", Check.told(x, 0, 0), 1);
        Check.due("the tape goes", x.end(1), false);
        Check.due("fault(0)", x.fault(0), 0);
        int before = x.fits(0, 0);
        Check.due("refused", Check.told(x, 0, 1, 1, 9), -1);
        Check.due("all stays", x.fits(0, 0), before);
        Check.due("no ACT", x.has(7), 0);
    }

    private static void fits() {
        NightDoors x = Check.dreaming(DREAM);
        // With a first: a is 7 .. 999 beside b 7.
        Check.told(x, 0, 0);
        Check.due("how many", x.fits(0, 0), 993);
        Check.due("the least", x.fits(0, 1), 7);
        Check.due("the greatest", x.fits(0, 2), 999);
        Check.due("what 3", x.fits(0, 3), -1);
        Check.due("what -1", x.fits(0, -1), -1);
        Check.due("no such DREAD", x.fits(2, 0), -1);
        Check.due("no such DREAD", x.fits(-1, 0), -1);
        // b 0 .. 10 beside a 10: of like ones the first
        Check.due("b, how many", x.fits(1, 0), 11);
        Check.due("b, the least", x.fits(1, 1), 0);
        Check.due("b, the greatest", x.fits(1, 2), 10);
        // a, then b (7): a 7 .. 10, and a-4+7 is above 5
        Check.told(x, 0, 0, 1);
        Check.due("a b: how many", x.fits(0, 0), 4);
        Check.due("a b: the least", x.fits(0, 1), 7);
        Check.due("a b: the greatest", x.fits(0, 2), 10);
        // b, a, b: b is above a 10: 11 .. 14 becomes 7 .. 10, not above a; a 6, then b above 6: 7 .. 10
        Check.told(x, 0, 1, 0, 1);
        Check.due("b a b: how many", x.fits(1, 0), 4);
        Check.due("b a b: the least", x.fits(1, 1), 11);
        Check.due("b a b: the greatest", x.fits(1, 2), 14);
        // Not HOME ahead of the last one: a alone, 0 of b: a 10, 6, then 2 is HOME.
        x.set(0, 1, 0);
        Check.told(x, 0, 0, 0);
        Check.due("a a, the least", x.fits(0, 1), 10);
        Check.told(x, 0, 0, 0, 0);
        Check.due("a a a, the least", x.fits(0, 1), 14);
        Check.due("the weight stays", x.weigh(0, 0, 0), 10);
        Check.told(x, 0, 1);
        x.set(0, 1, 3);
        Check.due("as the others are now: b 3, a none, but a 2", x.fits(0, 0), 0);
        Check.due("none, the least", x.fits(0, 1), -1);
        Check.due("none, the greatest", x.fits(0, 2), -1);
        x.set(0, 1, 4);
        Check.due("as the others are now: b 4, a 2 and 3", x.fits(0, 0), 2);
        x.take(0, 0);
        // The guide of b is along: b COUNTS 8, a half: 2 .. 15 do not count more.
        Check.due("led, the least", x.fits(0, 1), 2);
        Check.due("led, the greatest", x.fits(0, 2), 17 - 2);
        NightDoors y = Check.dreaming(DREAM);
        Check.told(y, 1, 0);
        Check.due("for whom it was told", y.fits(0, 1), 6);
        Check.tape(y, DREAM);
        y.dream();
        Check.due("a new DREAM: nothing is TOLD", y.fits(0, 1), -1);
    }
}
