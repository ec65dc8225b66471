/** Promises 1 (a new object), 2 (feed), 3 (end), 35 (status). */
public final class TapeTest {
    public static void main(String[] args) {
        newObject();
        feeding();
        ending();
        statuses();
        Check.end();
    }

    private static void newObject() {
        NightDoors x = new NightDoors();
        for (int i = 0; i < 8; i++) {
            Check.due("new: has(" + i + ")", x.has(i), 0);
        }
        for (int i = 0; i < 6; i++) {
            Check.due("new: status(" + i + ")", x.status(i), 0);
        }
        Check.due("new: letter", x.letter(1, 0, 0), -1);
        Check.due("new: dreamer", x.dreamer(0, 2), -1);
        Check.due("new: weigh", x.weigh(0, 0, 0), -1);
        Check.due("new: guide", x.guide(0), -1);
        Check.due("new: till", x.till(0), -1);
        Check.due("new: soonest", x.soonest(0, -1), -1);
        Check.due("new: days", x.days(0, 0, -1), -1);
        Check.due("new: hand", x.hand(0, 1, -1), -1);
        Check.due("new: fits", x.fits(0, 0), -1);
        Check.due("new: fault(0)", x.fault(0), 0);
        Check.due("new: fault(1)", x.fault(1), -1);
        Check.due("new: octet", x.octet(0), -1);
        Check.due("new: undo", x.undo(), false);
        Check.due("new: image", x.image(), 1);
        Check.due("new: octet(0)", x.octet(0), 181);
        Check.due("NONE", NightDoors.NONE, -1);
        Check.due("NOTHING", NightDoors.NOTHING, -1000000000000000L);
    }

    private static void feeding() {
        NightDoors x = new NightDoors();
        // "dread dog;dread cat;" of five numbers, the highest byte of each first
        Check.due("feed", x.feed(0x64726561, 0x6420646f, 0x673b6472, 0x65616420, 0x6361743b), 20);
        Check.due("feed, again", x.feed(0x64726561, 0x6420636f, 0x773b2020, 0x20202020, 0x20202020), 40);
        Check.due("dream of the tape", x.dream(), 3);
        Check.due("letter(0, 1, 0)", x.letter(0, 1, 0), 3);
        Check.due("letter(0, 2, 1)", x.letter(0, 2, 1), 15);
        for (int i = 1; i <= 80; i++) {
            Check.due("feed " + i, x.feed(i, -1, 0, 1, 2), 20 * i);
        }
        Check.due("feed to 1620", x.feed(1, 2, 3, 4, 5), -1);
        Check.due("status(0)", x.status(0), 1);
        Check.due("end(1581)", x.end(1581), true);
        Check.due("feed to 1601", x.feed(1, 2, 3, 4, 5), -1);
        Check.due("end(1580)", x.end(1580), true);
        Check.due("feed to 1600", x.feed(1, 2, 3, 4, 5), 1600);
        Check.due("status(0)", x.status(0), 2);
    }

    private static void ending() {
        NightDoors x = new NightDoors();
        Check.due("end(0) of none", x.end(0), true);
        Check.due("end(1) of none", x.end(1), false);
        x.feed(0x64726561, 0x64206420, 0x3b202020, 0x78787878, 0x78787878);
        Check.due("end(-1)", x.end(-1), false);
        Check.due("end(21)", x.end(21), false);
        Check.due("end(MIN)", x.end(Integer.MIN_VALUE), false);
        Check.due("status(0)", x.status(0), 4);
        Check.due("end(20)", x.end(20), true);
        Check.due("end(9)", x.end(9), true);
        Check.due("end(10), gone", x.end(10), false);
        Check.due("dream of what is left", x.dream(), 1);
        Check.due("end(1) of a tape that went", x.end(1), false);
        Check.due("status(0)", x.status(0), 6);
    }

    private static void statuses() {
        NightDoors x = Check.dreaming("dread a;dreamer d brave 1;");
        Check.due("status(-1)", x.status(-1), -1);
        Check.due("status(6)", x.status(6), -1);
        Check.tape(x, "?");
        x.dream();
        x.told(0);
        Check.due("status(1)", x.status(1), 2);
        x.meet(0, false);
        x.day(0, 1);
        x.take(0, 0);
        x.set(0, 0, 1000);
        x.night(0, 0);
        Check.due("status(2)", x.status(2), 5);
        x.undo();
        Check.due("status(3)", x.status(3), 1);
        x.seed(-5);
        Check.due("status(4)", x.status(4), 1);
        x.on();
        x.on();
        Check.due("status(5)", x.status(5), 2);
        Check.due("status(0)", x.status(0), 0);
        x.ask(7);
        x.ask(0);
        Check.due("status(1), questions aside", x.status(1), 2);
    }
}
