import java.nio.charset.StandardCharsets;

/** What the tests share: answers that are due, and texts fed to the tape. */
final class Check {
    private static int wrong = 0;
    private static int asked = 0;

    private Check() {
    }

    static void due(String call, long got, long want) {
        asked++;
        if (got != want) {
            wrong++;
            System.out.println(call + " answered " + got + ", due is " + want);
        }
    }

    static void due(String call, boolean got, boolean want) {
        due(call, got ? 1 : 0, want ? 1 : 0);
    }

    static void end() {
        System.out.println(asked + " answers, " + wrong + " of them not as due");
        if (wrong != 0) {
            System.exit(1);
        }
    }

    static byte[] bytes(String text) {
        return text.getBytes(StandardCharsets.ISO_8859_1);
    }

    /** Puts a text on an empty tape. */
    static void tape(NightDoors x, String text) {
        tape(x, bytes(text));
    }

    static void tape(NightDoors x, byte[] text) {
        for (int i = 0; i < text.length; i += 20) {
            x.feed(four(text, i), four(text, i + 4), four(text, i + 8), four(text, i + 12), four(text, i + 16));
        }
        x.end(text.length);
    }

    static int four(byte[] text, int from) {
        int number = 0;
        for (int i = from; i < from + 4; i++) {
            number = number << 8 | (i < text.length ? text[i] & 255 : 32);
        }
        return number;
    }

    static NightDoors dreaming(String text) {
        NightDoors x = new NightDoors();
        tape(x, text);
        due("dream() of " + text, x.dream() >= 0, true);
        return x;
    }

    /** A DREAM with this text has this FAULT at this place. */
    static void faulty(String text, int kind, int place) {
        NightDoors x = new NightDoors();
        tape(x, text);
        due("dream() of \"" + text + "\"", x.dream(), -1);
        due("fault(0) of \"" + text + "\"", x.fault(0), kind);
        due("fault(1) of \"" + text + "\"", x.fault(1), place);
        due("status(1) of \"" + text + "\"", x.status(1), 1);
    }

    /** A DREAM with this text has so many STATEMENTS. */
    static void right(String text, int statements) {
        NightDoors x = new NightDoors();
        tape(x, text);
        due("dream() of \"" + text + "\"", x.dream(), statements);
        due("fault(0) of \"" + text + "\"", x.fault(0), 0);
        due("fault(1) of \"" + text + "\"", x.fault(1), -1);
        due("status(1) of \"" + text + "\"", x.status(1), 0);
    }

    static long ask(NightDoors x, int dreamer, String text) {
        tape(x, text);
        return x.ask(dreamer);
    }

    static int told(NightDoors x, int dreamer, int... dreads) {
        byte[] row = new byte[dreads.length];
        for (int i = 0; i < row.length; i++) {
            row[i] = (byte) dreads[i];
        }
        tape(x, row);
        return x.told(dreamer);
    }
}
