/**
 * Promises 1 to 10 and 35, and what stays when a call is refused: each sentence that names a bound has a test of its
 * own, headed by the sentence's words, on both sides of the bound.
 */
public final class BoundsOfPromisesTest {
    private static final int[] WILD = {Integer.MIN_VALUE, -2, Integer.MAX_VALUE};
    private static final String DREAM = "dread aa;dread bbbbbb;dread c;dreamer dd brave 4;dreamer e brave 0;guide g of c;"
        + "guide hhh of aa;fears dd aa 50;fears dd bbbbbb 40;fears e c 3;meet weigh-3;shun weigh+2;byday weigh*2;home 5;"
        + "laugh 30;spite 9;";

    public static void main(String[] args) {
        noDreadsNobody();
        feedFull();
        feedHighestFirst();
        feedRefused();
        endBounds();
        endHasItsFirstBytes();
        tapeGoes();
        dreamWithAFault();
        dreamWithoutOne();
        hasWhat();
        hasHome();
        letterBounds();
        dreamerWhat();
        weighWhat();
        guideBounds();
        statusWhat();
        statusOfEach();
        refusedAllStays();
        questionsChangeNothing();
        lastCallPromised();
        Check.end();
    }

    // "NightDoors(): No DREADS, nobody dreams."
    private static void noDreadsNobody() {
        NightDoors x = new NightDoors();
        for (int n = -1; n <= 6; n++) {
            Check.due("letter of DREAD " + n, x.letter(0, n, 0), -1);
            Check.due("letter of DREAMER " + n, x.letter(1, n, 0), -1);
            Check.due("letter of GUIDE " + n, x.letter(2, n, 0), -1);
            Check.due("guide " + n, x.guide(n), -1);
            Check.due("weigh " + n, x.weigh(0, n, 0), -1);
            Check.due("dreamer " + n, x.dreamer(n, 2), -1);
            Check.due("room of " + n, x.room(n, 0), -1);
            Check.due("later of " + n, x.later(n, 0, 0), -1);
            Check.due("till of " + n, x.till(n), -1);
            Check.due("again of " + n, x.again(n, 0), -1);
            Check.due("soonest of " + n, x.soonest(n, -1), -1);
            Check.due("least of " + n, x.least(n, -1), -1);
            Check.due("along of " + n, x.along(n, 0), -1);
            Check.due("days of " + n, x.days(n, 0, -1), -1);
            Check.due("hand of " + n, x.hand(n, n + 1, -1), -1);
            Check.due("against of " + n, x.against(n, 0), -1);
            Check.due("chance of " + n, x.chance(n, 0), -1);
            Check.due("fits of " + n, x.fits(n, 0), -1);
        }
        for (int what = 0; what <= 7; what++) {
            Check.due("has " + what, x.has(what), 0);
        }
        Check.due("no ACTS", x.undo(), false);
        Check.due("no tape", x.end(1), false);
        Check.due("no FAULT", x.fault(0), 0);
        Check.due("no FAULT, its place", x.fault(1), -1);
    }

    // "feed(): .. how many there are; NONE, refused (0), if there would be more than 1600."
    private static void feedFull() {
        NightDoors x = new NightDoors();
        for (int n = 20; n <= 1600; n += 20) {
            Check.due("feed to " + n, x.feed(n, 0, -1, Integer.MAX_VALUE, Integer.MIN_VALUE), n);
        }
        Check.due("feed to 1620", x.feed(0, 0, 0, 0, 0), -1);
        Check.due("refused", x.status(0), 1);
        for (int n = 1599; n > 1580; n--) {
            Check.due("end " + n, x.end(n), true);
            Check.due("feed to " + (n + 20), x.feed(0, 0, 0, 0, 0), -1);
        }
        Check.due("refused", x.status(0), 20);
        Check.due("end 1580", x.end(1580), true);
        Check.due("feed to 1600", x.feed(0, 0, 0, 0, 0), 1600);
        Check.due("end 1579", x.end(1579), true);
        Check.due("feed to 1599", x.feed(0, 0, 0, 0, 0), 1599);
        Check.due("refused", x.status(0), 20);
    }

    // "Twenty bytes come behind those on the tape, of each number the highest first"
    private static void feedHighestFirst() {
        // An IMAGE tells what each byte is.
        NightDoors x = Check.dreaming("dread a;dreamer d brave 1;dreamer e brave 1;dreamer f brave 1;dreamer g brave 1;");
        int[] image = {0, 1, 2, 0, 3, 0, 0, 0, 5, 0, 3, 231};
        int c = 181;
        for (int b : image) {
            c = (3 * c + b) % 251;
        }
        Check.due("20", x.feed(0x00010200, 0x03000000, 0x050003e7, c << 24 | 0xffffff, -1), 20);
        Check.due("13 of them", x.end(13), true);
        Check.due("on()", x.on(), true);
        int[] due = {258, 768, 5, 999};
        for (int i = 0; i < 4; i++) {
            Check.due("weight of " + i, x.weigh(i, 0, 0), due[i]);
        }
        // Behind those on the tape, wherever it was cut.
        NightDoors y = new NightDoors();
        y.feed(0x64726561, 0x64203f3f, 0, 0, 0);
        y.end(6);
        Check.due("26", y.feed(0x7a3b3f3f, 0x3f3f3f3f, 0, 0, 0), 26);
        y.end(8);
        Check.due("dread z;", y.dream(), 1);
        Check.due("z", y.letter(0, 0, 0), 26);
    }

    // What was refused leaves the tape as it was.
    private static void feedRefused() {
        NightDoors x = new NightDoors();
        Check.tape(x, " ".repeat(1581) + "dread a;dread b;");
        Check.due("feed to 1617", x.feed(-1, -1, -1, -1, -1), -1);
        Check.due("end 1598", x.end(1598), false);
        Check.due("end -1", x.end(-1), false);
        Check.due("refused", x.status(0), 3);
        Check.due("the tape is as it was", x.dream(), 2);
    }

    // "end(): The tape has its first n bytes alone: true; false, refused (0), if it has not so many, or n is below 0."
    private static void endBounds() {
        for (int size = 0; size <= 1600; size += 400) {
            NightDoors x = new NightDoors();
            Check.tape(x, "x".repeat(size));
            Check.due("one more than " + size, x.end(size + 1), false);
            Check.due("20 more than " + size, x.end(size + 20), false);
            Check.due("-1 of " + size, x.end(-1), false);
            for (int n : WILD) {
                Check.due(n + " of " + size, x.end(n), false);
            }
            Check.due("refused", x.status(0), 6);
            Check.due("all " + size, x.end(size), true);
            Check.due("all but one of " + size, x.end(size - 1), size > 0);
            Check.due("all again", x.end(size), size == 0);
            Check.due("0 of " + size, x.end(0), true);
            Check.due("1 of none", x.end(1), false);
        }
    }

    private static void endHasItsFirstBytes() {
        String text = "dread a;dread b;dread c;";
        for (int n = 0; n <= text.length(); n++) {
            NightDoors x = new NightDoors();
            Check.tape(x, text);
            Check.due("end " + n, x.end(n), true);
            Check.due("dream() of " + n, x.dream(), n % 8 == 0 ? n / 8 : -1);
            Check.due("DREADS of " + n, x.has(0), n % 8 == 0 ? n / 8 : 0);
        }
    }

    // "The tape (it goes)", of dream(), told(), ask() and on(), refused or not
    private static void tapeGoes() {
        byte[] right = {0};
        for (int i = 0; i < 10; i++) {
            NightDoors x = Check.dreaming(DREAM);
            x.image();
            byte[] image = new byte[15];
            for (int k = 0; k < 15; k++) {
                image[k] = (byte) x.octet(k);
            }
            switch (i) {
                case 0: Check.tape(x, "dread a;"); Check.due("dream()", x.dream(), 1); break;
                case 1: Check.tape(x, "dread a"); Check.due("dream()", x.dream(), -1); break;
                case 2: Check.tape(x, right); Check.due("told()", x.told(0), 1); break;
                case 3: Check.tape(x, image); Check.due("told()", x.told(0), -1); break;
                case 4: Check.tape(x, right); Check.due("told()", x.told(2), -1); break;
                case 5: Check.tape(x, "total 1"); Check.due("ask()", x.ask(1), 0); break;
                case 6: Check.tape(x, "total"); Check.due("ask()", x.ask(0), NightDoors.NOTHING); break;
                case 7: Check.tape(x, "total 1"); Check.due("ask()", x.ask(2), NightDoors.NOTHING); break;
                case 8: Check.tape(x, image); Check.due("on()", x.on(), true); break;
                default: Check.tape(x, right); Check.due("on()", x.on(), false); break;
            }
            Check.due("the tape went, " + i, x.end(1), false);
            Check.due("20 again, " + i, x.feed(0, 0, 0, 0, 0), 20);
        }
    }

    // "dream(): .. NONE, refused (1), with a FAULT (all stays)"
    private static void dreamWithAFault() {
        String[] texts = {"dread", "dread x;dreamer y brave 1;guide z of x;home 1;laugh 1;spite 1;meet 1;?", "laugh 101;",
            "home 1;".repeat(71), DREAM + "meet 5;", DREAM + "dread aa;"};
        for (String text : texts) {
            NightDoors x = Check.dreaming(DREAM);
            x.take(0, 1);
            x.set(1, 1, 77);
            x.image();
            Check.told(x, 0, 0, 1);
            String all = withoutFault(x);
            Check.tape(x, text);
            Check.due("dream()", x.dream(), -1);
            Check.due("refused", x.status(1), 1);
            Check.due("all stays, " + text, withoutFault(x).equals(all), true);
            Check.due("undo()", x.undo(), true);
            Check.due("what was set is undone", x.weigh(1, 1, 0), 0);
        }
    }

    private static String withoutFault(NightDoors x) {
        return All.of(x).replaceAll(" fault .*", "");
    }

    // "Without one nobody is along, nothing can be undone; the seed stays."
    private static void dreamWithoutOne() {
        NightDoors x = Check.dreaming(DREAM);
        NightDoors y = Check.dreaming(DREAM);
        x.seed(1234);
        y.seed(1234);
        x.take(0, 0);
        x.take(1, 1);
        x.set(0, 0, 7);
        x.night(0, 1);
        y.night(0, 1);
        Check.tape(x, DREAM);
        Check.due("the same again", x.dream(), 16);
        Check.due("nobody is along", x.dreamer(0, 1), -1);
        Check.due("nobody is along", x.dreamer(1, 1), -1);
        Check.due("nothing can be undone", x.has(7), 0);
        Check.due("undo()", x.undo(), false);
        Check.due("weights as it tells", x.weigh(0, 0, 0), 50);
        y.set(0, 0, 50);
        y.set(0, 1, 40);
        for (int room = 0; room < 12; room++) {
            Check.due("the seed stays", x.night(0, 1), y.night(0, 1));
            for (int i = 0; i < 3; i++) {
                Check.due("the seed stays", x.weigh(0, i, 0), y.weigh(0, i, 0));
            }
        }
    }

    // "has(): How many there are: 0 .. 7. NONE for others."
    private static void hasWhat() {
        NightDoors x = Check.dreaming(DREAM);
        int[] due = {3, 2, 2, 5, 30, 9, 1, 0};
        for (int what = 0; what < 8; what++) {
            Check.due("has " + what, x.has(what), due[what]);
        }
        for (int what : new int[] {-1, 8, 9, Integer.MIN_VALUE, Integer.MAX_VALUE}) {
            Check.due("has " + what, x.has(what), -1);
        }
    }

    // "6 DREAMERS who are HOME", 0 to 4 of them
    private static void hasHome() {
        NightDoors x = Check.dreaming("dread a;dreamer d brave 1;dreamer e brave 1;dreamer f brave 1;dreamer g brave 1;home 5;");
        for (int set = 0; set < 16; set++) {
            for (int i = 0; i < 4; i++) {
                x.set(i, 0, (set >> i & 1) == 1 ? 5 : 6);
            }
            Check.due("set " + set, x.has(6), Integer.bitCount(set));
        }
    }

    // "letter(): Letter k (0 .. 5) of the NAME ..: 1 .. 26; 0 behind it; NONE when there is none such."
    private static void letterBounds() {
        NightDoors x = Check.dreaming(DREAM);
        String[][] names = {{"aa", "bbbbbb", "c"}, {"dd", "e"}, {"g", "hhh"}};
        for (int kind = 0; kind < 3; kind++) {
            for (int which = 0; which < names[kind].length; which++) {
                String name = names[kind][which];
                for (int k = 0; k < 6; k++) {
                    Check.due(name + " " + k, x.letter(kind, which, k), k < name.length() ? name.charAt(k) - 'a' + 1 : 0);
                }
                for (int k : new int[] {-1, 6, 7, 12, Integer.MIN_VALUE, Integer.MAX_VALUE}) {
                    Check.due(name + " " + k, x.letter(kind, which, k), -1);
                }
            }
            for (int which : new int[] {-1, names[kind].length, 4, 6, Integer.MIN_VALUE, Integer.MAX_VALUE}) {
                Check.due(kind + ", NAME " + which, x.letter(kind, which, 0), -1);
            }
        }
        for (int kind : new int[] {-1, 3, 4, Integer.MIN_VALUE, Integer.MAX_VALUE}) {
            Check.due("kind " + kind, x.letter(kind, 0, 0), -1);
        }
        for (int c = 0; c < 26; c++) {
            Check.due("letter " + c, Check.dreaming("dread " + (char) ('a' + c) + ";").letter(0, 0, 0), c + 1);
        }
    }

    // "dreamer(): .. NONE when there is none such, or for others."
    private static void dreamerWhat() {
        NightDoors x = Check.dreaming(DREAM);
        int[][] due = {{4, -1, 90, 50, 2, 0, 1, 0}, {0, -1, 3, 3, 1, 2, 0, 1}};
        for (int d = 0; d < 2; d++) {
            for (int what = 0; what < 8; what++) {
                Check.due("dreamer " + d + " " + what, x.dreamer(d, what), due[d][what]);
            }
            for (int what : new int[] {-1, 8, 9, Integer.MIN_VALUE, Integer.MAX_VALUE}) {
                Check.due("dreamer " + d + " " + what, x.dreamer(d, what), -1);
            }
        }
        for (int d : new int[] {-1, 2, 3, 4, Integer.MIN_VALUE, Integer.MAX_VALUE}) {
            for (int what = 0; what < 8; what++) {
                Check.due("dreamer " + d + " " + what, x.dreamer(d, what), -1);
            }
        }
        Check.due("g comes along", x.take(0, 0), true);
        Check.due("GUIDE 0", x.dreamer(0, 1), 0);
        Check.due("h comes along", x.take(0, 1), true);
        Check.due("GUIDE 1", x.dreamer(0, 1), 1);
    }

    // "weigh(): .. NONE when there are none such, or for others."
    private static void weighWhat() {
        NightDoors x = Check.dreaming(DREAM);
        int[] due = {50, 50, 47, 52, 100};
        for (int what = 0; what < 5; what++) {
            Check.due("weigh 0 0 " + what, x.weigh(0, 0, what), due[what]);
            for (int n : new int[] {-1, 3, 4, 6, Integer.MIN_VALUE, Integer.MAX_VALUE}) {
                Check.due("weigh 0 " + n + " " + what, x.weigh(0, n, what), -1);
            }
            for (int n : new int[] {-1, 2, 3, 4, Integer.MIN_VALUE, Integer.MAX_VALUE}) {
                Check.due("weigh " + n + " 0 " + what, x.weigh(n, 0, what), -1);
            }
        }
        for (int what : new int[] {-1, 5, 6, Integer.MIN_VALUE, Integer.MAX_VALUE}) {
            Check.due("weigh 0 0 " + what, x.weigh(0, 0, what), -1);
        }
    }

    // "guide(): The DREAD of a GUIDE; NONE when there is none such."
    private static void guideBounds() {
        NightDoors x = Check.dreaming(DREAM);
        Check.due("guide 0", x.guide(0), 2);
        Check.due("guide 1", x.guide(1), 0);
        for (int n : new int[] {-1, 2, 3, 4, Integer.MIN_VALUE, Integer.MAX_VALUE}) {
            Check.due("guide " + n, x.guide(n), -1);
        }
        Check.tape(x, "dread a;guide g of a;");
        x.dream();
        Check.due("guide 0 of a later DREAM", x.guide(0), 0);
        Check.due("guide 1 went", x.guide(1), -1);
    }

    // "status(): How many were refused: 0 .. 5. NONE for others."
    private static void statusWhat() {
        NightDoors x = new NightDoors();
        for (int what = 0; what < 6; what++) {
            Check.due("status " + what, x.status(what), 0);
        }
        for (int what : new int[] {-1, 6, 7, Integer.MIN_VALUE, Integer.MAX_VALUE}) {
            Check.due("status " + what, x.status(what), -1);
        }
    }

    private interface Call {
        boolean refused(NightDoors x);
    }

    private static final Call[] REFUSED = {
        x -> x.feed(0, 0, 0, 0, 0) == -1,
        x -> !x.end(-1),
        x -> !x.end(1601),
        x -> x.told(0) == -1,
        x -> x.dream() == -1,
        x -> x.meet(0, true) == -1,
        x -> x.meet(1, false) == -1,
        x -> x.meet(-1, false) == -1,
        x -> x.day(0, 1) == -1,
        x -> x.day(2, 0) == -1,
        x -> !x.take(0, 1),
        x -> !x.take(0, 0),
        x -> !x.take(1, -1),
        x -> !x.take(2, 0),
        x -> x.set(0, 0, -1) == -1,
        x -> x.set(0, 0, 1000) == -1,
        x -> x.set(0, 1, 5) == -1,
        x -> x.set(2, 0, 5) == -1,
        x -> x.night(0, 0) == -1,
        x -> x.night(0, 101) == -1,
        x -> x.night(2, 5) == -1,
        x -> !x.seed(-1),
        x -> !x.on()
    };
    private static final int[] COUNTED = {0, 0, 0, 1, 1, 2, 2, 2, 2, 2, 2, 2, 2, 2, 2, 2, 2, 2, 2, 2, 2, 4, 5};

    /** A tape of 1600 bytes that is no DREAM, no row of DREADS and no IMAGE; one DREAD, d with g, e who is HOME. */
    private static NightDoors full() {
        NightDoors x = Check.dreaming("dread a;dreamer d brave 1;dreamer e brave 1;guide g of a;fears d a 90;meet weigh-1;"
            + "byday weigh*2;laugh 50;home 5;");
        x.take(0, 0);
        x.set(1, 0, 5);
        Check.told(x, 0, 0, 0);
        x.image();
        Check.ask(x, 0, "total %");
        Check.tape(x, "x".repeat(1600));
        return x;
    }

    // What each refused call counts for: once, and for nothing else; questions and answers of NONE count for nothing.
    private static void statusOfEach() {
        for (int i = 0; i < REFUSED.length; i++) {
            NightDoors x = full();
            for (int times = 1; times <= 3; times++) {
                Check.due("call " + i + " is refused", REFUSED[i].refused(x), true);
                for (int what = 0; what < 6; what++) {
                    Check.due("call " + i + ", status " + what, x.status(what), what == COUNTED[i] ? times : 0);
                }
                // An empty tape would be a DREAM.
                if (i == 4) {
                    Check.tape(x, "x");
                }
            }
        }
        NightDoors x = full();
        x.undo();
        x.undo();
        Check.due("undo()", x.undo(), false);
        Check.due("undo(), again", x.undo(), false);
        Check.due("status 3", x.status(3), 2);
        x.has(9);
        x.letter(9, 9, 9);
        x.room(9, 9);
        x.soonest(9, 9);
        x.days(9, 9, 9);
        x.chance(9, 9);
        x.fits(9, 9);
        x.ask(9);
        x.octet(99);
        x.fault(9);
        x.status(9);
        int[] due = {0, 0, 0, 2, 0, 0};
        for (int what = 0; what < 6; what++) {
            Check.due("questions, status " + what, x.status(what), due[what]);
        }
    }

    // "refused ..": nothing but status() tells of it, and what comes behind is as without it.
    private static void refusedAllStays() {
        for (int i = 0; i < REFUSED.length; i++) {
            NightDoors x = full();
            NightDoors y = full();
            boolean dream = COUNTED[i] == 1 || COUNTED[i] == 5;
            Check.due("call " + i + " is refused", REFUSED[i].refused(x), true);
            // The FAULT is told of the latest dream(), refused or not.
            Check.due("all stays, call " + i, withoutFault(x).equals(withoutFault(y)), true);
            Check.due("the FAULT, call " + i, x.fault(1), i == 4 ? 0 : 6);
            Check.due("the tape, call " + i, x.end(1600), !dream);
            Check.due("ACTS, call " + i, x.has(7), 2);
            for (int n = 0; n < 6; n++) {
                Check.due("the seed, call " + i, x.night(0, 2), y.night(0, 2));
                Check.due("the seed, call " + i, x.weigh(0, 0, 0), y.weigh(0, 0, 0));
            }
            for (int n = 0; n < 9; n++) {
                Check.due("undo, call " + i, x.undo(), y.undo());
                Check.due("the weight, call " + i, x.weigh(0, 0, 0), y.weigh(0, 0, 0));
                Check.due("the GUIDE, call " + i, x.dreamer(0, 1), y.dreamer(0, 1));
            }
        }
    }

    // Questions change nothing, whatever they are asked.
    private static void questionsChangeNothing() {
        NightDoors x = Check.dreaming(DREAM);
        x.take(0, 1);
        Check.told(x, 0, 0);
        String all = All.of(x);
        for (int n = -1; n <= 2; n++) {
            x.room(0, n);
            x.later(0, 0, n);
            x.till(n);
            x.again(0, n);
            x.soonest(0, n);
            x.least(0, n);
            x.along(0, n);
            x.days(0, 7, n);
            x.hand(0, 1, n);
            x.against(0, n);
            x.chance(0, n);
            x.fits(n, 0);
            Check.due("nothing is done, " + n, All.of(x).equals(all), true);
        }
        Check.due("the tape is empty", x.end(1), false);
    }

    // "An object is used for at most 512 calls after it has been made": the 512th is answered like the others.
    private static void lastCallPromised() {
        NightDoors x = new NightDoors();
        for (int call = 1; call <= 511; call++) {
            x.end(-1);
        }
        Check.due("the 512th call", x.status(0), 511);
        NightDoors y = new NightDoors();
        y.feed(0x64726561, 0x6420613b, 0x64726561, 0x6d657220, 0x64206272);
        y.feed(0x61766520, 0x313b2020, 0x20202020, 0x20202020, 0x20202020);
        Check.due("dream()", y.dream(), 2);
        for (int call = 4; call <= 511; call++) {
            Check.due("call " + call, y.set(0, 0, call), call == 4 ? 0 : call - 1);
        }
        Check.due("the 512th call", y.undo(), true);
    }
}
