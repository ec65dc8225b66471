import java.util.Random;

/** No call throws, whatever its numbers are and in whatever state; and the same calls give the same answers. */
public final class WildTest {
    private static final int[] ODD = {Integer.MIN_VALUE, Integer.MIN_VALUE + 1, -1000, -2, -1, 0, 1, 2, 3, 4, 5, 6, 7, 8,
        19, 20, 21, 63, 64, 199, 200, 201, 255, 999, 1000, 1600, 65536, Integer.MAX_VALUE - 1, Integer.MAX_VALUE};
    private static final String[] TEXTS = {"dread a;dread b;dread c;dread d;dread e;dread f;dreamer g brave 9;"
        + "dreamer h brave 0;dreamer i brave 5;dreamer j brave 1;guide k of f;guide l of a;fears g a 999;fears h f 999;"
        + "fears i c 500;fears j d 2;fears g b 998;meet weigh*3/4+number-brave;shun worst*weigh;byday sum/(many-2);"
        + "home 17;laugh 99;spite 999;", "dreamer a brave 0;dreamer b brave 9;home 0;", "dread a;home 0;", "",
        "dread a;dreamer b brave 0;dreamer c brave 1;fears b a 9;guide d of a;meet 0-9999*9999*9999;laugh 100;",
        "first not [weigh weigh (room-9999*9999)=0 or all]", "most 9999*9999*9999-weigh(0-1)", "\u0000", "\u0001\u0000"};

    public static void main(String[] args) {
        for (int run = 0; run < 400; run++) {
            long first = play(new Random(run));
            Check.due("run " + run + ", a second time", play(new Random(run)), first);
        }
        Check.end();
    }

    private static long play(Random by) {
        NightDoors x = new NightDoors();
        long answers = 0;
        Check.tape(x, TEXTS[by.nextInt(3) == 0 ? by.nextInt(TEXTS.length) : 0]);
        for (int i = 0; i < 120; i++) {
            answers = 31 * answers + call(x, by);
        }
        return answers;
    }

    private static int odd(Random by) {
        return by.nextInt(3) == 0 ? ODD[by.nextInt(ODD.length)] : by.nextInt(4);
    }

    private static long call(NightDoors x, Random by) {
        int a = odd(by);
        int b = odd(by);
        int c = odd(by);
        boolean yes = by.nextBoolean();
        switch (by.nextInt(36)) {
            case 0: return x.feed(by.nextInt(), a, b, c, by.nextInt());
            case 1: return x.end(a) ? 1 : 0;
            case 2: return x.dream();
            case 3: return x.fault(a);
            case 4: return x.has(a);
            case 5: return x.letter(a, b, c);
            case 6: return x.dreamer(a, b);
            case 7: return x.weigh(a, b, c);
            case 8: return x.guide(a);
            case 9: return x.room(a, b);
            case 10: return x.later(a, b, c);
            case 11: return x.till(a);
            case 12: return x.again(a, b);
            case 13: return x.soonest(a, b);
            case 14: return x.least(a, b);
            case 15: return x.along(a, b);
            case 16: return x.days(a, b, c);
            case 17: return x.hand(a, b, c);
            case 18: return x.against(a, b);
            case 19: return x.chance(a, b);
            case 20: return x.meet(a, yes);
            case 21: return x.day(a, b);
            case 22: return x.take(a, b) ? 1 : 0;
            case 23: return x.set(a, b, c);
            case 24: return x.night(a, b);
            case 25: return x.undo() ? 1 : 0;
            case 26: return x.seed(a) ? 1 : 0;
            case 27: return x.told(a);
            case 28: return x.fits(a, b);
            case 29: return x.ask(a);
            case 30: return x.image();
            case 31: return x.octet(a);
            case 32: return x.on() ? 1 : 0;
            case 33: return x.status(a);
            default:
                Check.tape(x, TEXTS[by.nextInt(TEXTS.length)]);
                return 0;
        }
    }
}
