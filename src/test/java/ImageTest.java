/** Promises 32 (image), 33 (octet), 34 (on). */
public final class ImageTest {
    private static final String DREAM = "dread a;dread b;dreamer d brave 2;dreamer e brave 2;guide g of b;guide h of a;"
        + "fears d a 300;fears d b 7;fears e b 999;meet weigh-4;home 5;";
    private static final int[] DUE = {2, 1, 44, 0, 7, 0, 0, 0, 3, 231};
    // Reckoned by hand from 181 on, byte by byte.
    private static final int CHECK = 60;

    public static void main(String[] args) {
        image();
        on();
        onRefused();
        Check.end();
    }

    private static byte[] withCheck(int... bytes) {
        byte[] all = new byte[bytes.length + 1];
        int c = 181;
        for (int i = 0; i < bytes.length; i++) {
            all[i] = (byte) bytes[i];
            c = (3 * c + bytes[i]) % 251;
        }
        all[bytes.length] = (byte) c;
        return all;
    }

    private static void image() {
        NightDoors x = Check.dreaming(DREAM);
        Check.due("none yet", x.octet(0), -1);
        x.take(0, 1);
        Check.due("image()", x.image(), 11);
        for (int i = 0; i < DUE.length; i++) {
            Check.due("octet(" + i + ")", x.octet(i), DUE[i]);
        }
        Check.due("octet(10)", x.octet(10), CHECK);
        Check.due("octet(11)", x.octet(11), -1);
        Check.due("octet(-1)", x.octet(-1), -1);
        x.set(0, 0, 5);
        x.take(0, -1);
        Check.due("the latest one", x.octet(2), 44);
        Check.due("image()", x.image(), 11);
        Check.due("nobody along", x.octet(0), 0);
        Check.due("5", x.octet(2), 5);
        Check.tape(x, "");
        x.dream();
        Check.due("the latest one, of an older DREAM", x.octet(2), 5);
        Check.due("without DREAMERS", x.image(), 1);
        Check.due("181", x.octet(0), 181);
        Check.due("no more", x.octet(1), -1);
        NightDoors most = Check.dreaming("dread a;dread b;dread c;dread d;dread e;dread f;dreamer g brave 1;"
            + "dreamer h brave 1;dreamer i brave 1;dreamer j brave 1;");
        Check.due("the longest", most.image(), 53);
        Check.due("its last byte", most.octet(52) >= 0, true);
    }

    private static void on() {
        NightDoors x = Check.dreaming(DREAM);
        Check.told(x, 0, 0);
        Check.tape(x, withCheck(DUE));
        x.set(0, 0, 9);
        x.set(1, 0, 9);
        Check.due("on()", x.on(), true);
        Check.due("its tape went", x.end(1), false);
        Check.due("h is along with d", x.dreamer(0, 1), 1);
        Check.due("nobody with e", x.dreamer(1, 1), -1);
        Check.due("d a", x.weigh(0, 0, 0), 300);
        Check.due("d b", x.weigh(0, 1, 0), 7);
        Check.due("e a", x.weigh(1, 0, 0), 0);
        Check.due("e b", x.weigh(1, 1, 0), 999);
        Check.due("nothing can be undone", x.has(7), 0);
        Check.due("undo()", x.undo(), false);
        Check.due("status(5)", x.status(5), 0);
        Check.due("what was TOLD stays", x.fits(0, 2), 999);
        Check.tape(x, withCheck(0, 0, 1, 0, 2, 1, 0, 3, 0, 4));
        Check.due("on()", x.on(), true);
        Check.due("nobody with d", x.dreamer(0, 1), -1);
        Check.due("g with e", x.dreamer(1, 1), 0);
        Check.due("e b", x.weigh(1, 1, 0), 4);
        NightDoors three = Check.dreaming("dread a;dread b;dread c;dreamer d brave 1;");
        Check.tape(three, withCheck(0, 0, 1, 0, 2, 3, 0));
        Check.due("three DREADS", three.on(), true);
        Check.due("three DREADS, the last", three.weigh(0, 2, 0), 768);
        NightDoors none = new NightDoors();
        Check.tape(none, withCheck());
        Check.due("without a DREAM", none.on(), true);
    }

    private static void refused(String how, byte[] image) {
        NightDoors x = Check.dreaming(DREAM);
        x.set(0, 1, 8);
        x.take(1, 0);
        Check.tape(x, image);
        Check.due(how, x.on(), false);
        Check.due(how + ": its tape went", x.end(1), false);
        Check.due(how + ": status(5)", x.status(5), 1);
        Check.due(how + ": the weights stay", x.weigh(0, 1, 0), 8);
        Check.due(how + ": the GUIDE stays", x.dreamer(1, 1), 0);
        Check.due(how + ": the ACTS stay", x.has(7), 2);
        Check.due(how + ": fault(0)", x.fault(0), 0);
    }

    private static void onRefused() {
        refused("nothing", new byte[0]);
        byte[] other = withCheck(DUE);
        other[10]++;
        refused("another last byte", other);
        byte[] changed = withCheck(DUE);
        changed[4]++;
        refused("another weight", changed);
        refused("a byte less", withCheck(2, 1, 44, 0, 7, 0, 0, 0, 3));
        refused("a byte more", withCheck(2, 1, 44, 0, 7, 0, 0, 0, 3, 231, 0));
        refused("one DREAMER", withCheck(2, 1, 44, 0, 7));
        refused("1000", withCheck(2, 1, 44, 0, 7, 0, 0, 0, 3, 232));
        refused("1000, the first", withCheck(2, 3, 232, 0, 7, 0, 0, 0, 3, 231));
        refused("65535", withCheck(2, 255, 255, 0, 7, 0, 0, 0, 3, 231));
        refused("no such GUIDE", withCheck(3, 1, 44, 0, 7, 0, 0, 0, 3, 231));
        refused("no such GUIDE of e", withCheck(2, 1, 44, 0, 7, 255, 0, 0, 3, 231));
    }
}
