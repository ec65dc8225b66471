/** Promises 4 (dream) and 5 (fault): the text of a DREAM and its FAULTS. */
public final class DreamTest {
    private static final String SIX = "dread a;dread b;dread c;dread d;dread e;dread f;";

    public static void main(String[] args) {
        rightTexts();
        words();
        numbers();
        names();
        brackets();
        tooMany();
        firstFault();
        whatStays();
        sums();
        manyOfAll();
        oneBehindAnother();
        Check.end();
    }

    private static void rightTexts() {
        Check.right("", 0);
        Check.right(" \n ", 0);
        Check.right("home 0;", 1);
        Check.right("\nhome\n0\n;\n", 1);
        Check.right("dread room;dread first;dread or;", 3);
        Check.right("home 9999;laugh 100;spite 999;home 0001;laugh 0;spite 0;", 6);
        Check.right("dread abcdef;dreamer ghijkl brave 9;guide mnopqr of abcdef;fears ghijkl abcdef 999;", 4);
        Check.right("meet((((((1))))));shun min(1,max(weigh,worst))*sum/many+number-brave;byday 9999;", 3);
        Check.right("home 1;".repeat(70), 70);
        Check.right("home 1;".repeat(70) + " \n", 70);
        Check.right(SIX + "dreamer g brave 0;dreamer h brave 0;dreamer i brave 0;dreamer j brave 0;"
            + "guide k of a;guide l of a;guide m of f;guide n of b;", 14);
    }

    private static void words() {
        Check.faulty("x;", 1, 0);
        Check.faulty(";", 1, 0);
        Check.faulty("home 1;;", 1, 7);
        Check.faulty("Home 1;", 1, 0);
        Check.faulty("\thome 1;", 1, 0);
        Check.faulty("\u00e9", 1, 0);
        Check.faulty(" drea", 1, 1);
        Check.faulty("dreads a;", 1, 0);
        Check.faulty("weigh;", 1, 0);
        Check.faulty("12;", 1, 0);
        Check.faulty("dread a b;", 1, 8);
        Check.faulty("dread a1;", 1, 7);
        Check.faulty("dread 1;", 1, 6);
        Check.faulty("dread A;", 1, 6);
        Check.faulty("dread aB;", 1, 7);
        Check.faulty("dread;", 1, 5);
        Check.faulty("dread", 1, 5);
        Check.faulty("dread a", 1, 7);
        Check.faulty("dread a \n", 1, 9);
        Check.faulty("dreamer d bravex 1;", 1, 10);
        Check.faulty("dreamer d 1;", 1, 10);
        Check.faulty("dread a;guide g off a;", 1, 16);
        Check.faulty("dread a;guide gof a;", 1, 18);
        Check.faulty("meet weight;", 1, 5);
        Check.faulty("meet room;", 1, 5);
        Check.faulty("meet dread;", 1, 5);
        Check.faulty("meet 1 weigh;", 1, 7);
        Check.faulty("meet weigh weigh;", 1, 11);
        Check.faulty("meet -1;", 1, 5);
        Check.faulty("meet 1+;", 1, 7);
        Check.faulty("meet 1+*2;", 1, 7);
        Check.faulty("meet (1;", 1, 7);
        Check.faulty("meet 1);", 1, 6);
        Check.faulty("meet ();", 1, 6);
        Check.faulty("meet min 1,2);", 1, 9);
        Check.faulty("meet min(1;2);", 1, 10);
        Check.faulty("meet max(1,2;", 1, 12);
        Check.faulty("meet max(1)", 1, 10);
        Check.faulty("meet min;", 1, 8);
        Check.faulty("meet max", 1, 8);
        Check.faulty("meet [1];", 1, 5);
        Check.faulty("meet 1<2;", 1, 6);
    }

    private static void numbers() {
        Check.faulty("home1;", 1, 4);
        Check.faulty("home x;", 1, 5);
        Check.faulty("home -1;", 1, 5);
        Check.faulty("home 12345;", 1, 9);
        Check.faulty("home 00001;", 1, 9);
        Check.faulty("home 1 2;", 1, 7);
        Check.faulty("home 12x;", 1, 7);
        Check.faulty("meet5;", 1, 4);
        Check.faulty("meet 10000;", 1, 9);
        Check.faulty("laugh 12345;", 1, 10);
        Check.faulty("laugh 101;", 2, 6);
        Check.faulty("laugh  0999;", 2, 7);
        Check.faulty("spite 1000;", 2, 6);
        Check.faulty("dreamer d brave 10;", 2, 16);
        Check.faulty("dreamer d brave1;", 1, 15);
        Check.faulty("dread a;dreamer d brave 1;fears d a 1000;", 2, 36);
        Check.faulty("dread a;dreamer d brave 1;fears d a1;", 1, 35);
        Check.right("dread a;dreamer d brave 9;fears d a 0999;laugh 0100;", 4);
    }

    private static void names() {
        Check.faulty("dread of;", 1, 6);
        Check.faulty("dread dreamer;", 1, 6);
        Check.faulty("dread max;", 1, 6);
        Check.faulty("dread dreamers;", 1, 12);
        Check.faulty("dread abcdefg;", 1, 12);
        Check.faulty("dread a;dread a;", 3, 14);
        Check.faulty("dread a;dreamer a brave 1;", 3, 16);
        Check.faulty("dread a;guide a of a;", 3, 14);
        Check.faulty("dreamer d brave 1;dread d;", 3, 24);
        Check.faulty("dread a;guide g of a;dreamer g brave 1;", 3, 29);
        Check.faulty("fears x", 3, 6);
        Check.faulty("fears of x 1;", 1, 6);
        Check.faulty("fears abcdefg x 1;", 1, 12);
        Check.faulty("dread a;fears a a 1;", 3, 14);
        Check.faulty("dread a;dreamer d brave 1;fears d d 1;", 3, 34);
        Check.faulty("dreamer d brave 1;fears d a 1;dread a;", 3, 26);
        Check.faulty("guide g of g;", 3, 11);
        Check.faulty("dread a;guide g of x;", 3, 19);
        Check.faulty("dread a;guide g of a;guide h of g;", 3, 32);
        Check.right("dread a;dread ab;dread b;dreamer ba brave 0;guide aa of ab;", 5);
    }

    private static void brackets() {
        Check.right("meet ((((((1))))))+((((((2))))));", 1);
        Check.faulty("meet (((((((1)))))));", 4, 11);
        Check.faulty("meet ((((((min(1,2)))))));", 4, 14);
        Check.faulty("meet ((((((min 1", 1, 15);
        Check.faulty("meet min(min(min(min(min(min(min(1", 4, 32);
        Check.right("meet min(min(min(min(min(min(1,2),3),4),5),6),7);", 1);
        Check.faulty("meet ((((((1)))))+((((((2;", 4, 23);
        Check.right("meet ((((((1)))))+(((((2))))));", 1);
        Check.right("meet min(1,(((((2))))));", 1);
        Check.faulty("meet min(1,((((((2)))))));", 4, 16);
        Check.right("meet max((((((1))))),(((((2))))))+((((((3))))));", 1);
    }

    private static void tooMany() {
        Check.faulty(SIX + "\ndread g;", 5, 49);
        Check.faulty(SIX + "dread", 5, 48);
        Check.faulty(SIX + "dreads", 1, 48);
        String four = "dreamer g brave 0;dreamer h brave 0;dreamer i brave 0;dreamer j brave 0;";
        Check.faulty(four + "dreamer k brave 0;", 5, 72);
        String guides = "dread a;guide k of a;guide l of a;guide m of a;guide n of a;";
        Check.faulty(guides + " guide o of a;", 5, 61);
        Check.faulty("meet 1;shun 1;byday 1;meet", 5, 22);
        Check.faulty("meet 1;shun 1;byday 1;shun 1;", 5, 22);
        Check.faulty("meet 1;shun 1;byday 1;byday 1;", 5, 22);
        String seventy = "home 1;".repeat(70);
        Check.faulty(seventy + " home 1;", 5, 491);
        Check.faulty(seventy + "?", 5, 490);
        Check.faulty(seventy + ";", 5, 490);
        Check.faulty(seventy + "  dread of", 5, 492);
    }

    private static void firstFault() {
        Check.faulty("laugh 101;dread of;", 2, 6);
        Check.faulty("dread of;laugh 101;", 1, 6);
        Check.faulty("laugh 101x", 2, 6);
        Check.faulty("dread a;dread a(", 3, 14);
    }

    private static void whatStays() {
        NightDoors x = Check.dreaming("dread a;dread b;dreamer d brave 3;guide g of a;fears d a 5;fears d b 4;"
            + "fears d a 7;home 9;laugh 1;home 3;laugh 2;spite 4;");
        Check.due("the last fears count", x.weigh(0, 0, 0), 7);
        Check.due("fears of b", x.weigh(0, 1, 0), 4);
        Check.due("the last home counts", x.has(3), 3);
        Check.due("the last laugh counts", x.has(4), 2);
        x.take(0, 0);
        x.set(0, 0, 8);
        x.seed(5);
        Check.told(x, 0, 0);
        Check.tape(x, "dread c;dread d;dread");
        Check.due("a DREAM with a FAULT", x.dream(), -1);
        Check.due("end(1): its tape went", x.end(1), false);
        Check.due("the weight stays", x.weigh(0, 0, 0), 8);
        Check.due("the GUIDE stays", x.dreamer(0, 1), 0);
        Check.due("the ACTS stay", x.has(7), 2);
        Check.due("the NAMES stay", x.letter(0, 0, 0), 1);
        Check.due("what was TOLD stays", x.fits(0, 2) >= 0, true);
        Check.due("fault(0)", x.fault(0), 1);
        Check.due("fault(1)", x.fault(1), 21);
        Check.due("fault(2)", x.fault(2), -1);
        Check.due("fault(-1)", x.fault(-1), -1);
        Check.tape(x, "dread a;dread b;dreamer d brave 3;guide g of a;fears d a 50;spite 1;");
        Check.due("a new DREAM", x.dream(), 6);
        Check.due("fault(0), gone", x.fault(0), 0);
        Check.due("fault(1), gone", x.fault(1), -1);
        Check.due("nobody is along", x.dreamer(0, 1), -1);
        Check.due("nothing can be undone", x.has(7), 0);
        Check.due("undo()", x.undo(), false);
        Check.due("weights of the new one", x.weigh(0, 0, 0), 50);
        Check.due("weights of the old one went", x.weigh(0, 1, 0), 0);
        Check.due("home went", x.has(3), 0);
        Check.due("laugh went", x.has(4), 0);
        Check.due("no meet", x.weigh(0, 0, 2), 50);
        // The seed stays 5: its first DRAW is of 1103515245 * 5 + 12345, so 1222621274; 19103457 mod 2 is 1.
        Check.due("a night of one ROOM", x.night(0, 1), 1);
        Check.tape(x, "");
        Check.due("an empty DREAM", x.dream(), 0);
        Check.due("no DREADS", x.has(0), 0);
        Check.due("no DREAMERS", x.has(1), 0);
    }

    private static void manyOfAll() {
        StringBuilder text = new StringBuilder(SIX);
        for (int i = 0; i < 4; i++) {
            text.append("dreamer ").append("ghij".charAt(i)).append(" brave ").append(9 - i).append(";");
            for (int j = 0; j < 6; j++) {
                text.append("fears ").append("ghij".charAt(i)).append(" ").append("abcdef".charAt(j)).append(" ")
                    .append(100 * i + 10 * j + 9).append(";");
            }
        }
        for (int i = 0; i < 4; i++) {
            text.append("guide ").append("klmn".charAt(i)).append(" of ").append("fdba".charAt(i)).append(";");
        }
        NightDoors x = Check.dreaming(text.toString());
        int[] of = {5, 3, 1, 0};
        for (int i = 0; i < 4; i++) {
            Check.due("brave of " + i, x.dreamer(i, 0), 9 - i);
            Check.due("guide " + i, x.guide(i), of[i]);
            Check.due("letter of GUIDE " + i, x.letter(2, i, 0), 11 + i);
            Check.due("letter of DREAMER " + i, x.letter(1, i, 0), 7 + i);
            for (int j = 0; j < 6; j++) {
                Check.due("weigh " + i + " " + j, x.weigh(i, j, 0), 100 * i + 10 * j + 9);
                Check.due("letter of DREAD " + j, x.letter(0, j, 0), 1 + j);
            }
        }
    }

    // Each of these SUMs has some 500 parts: what an older text told must not be in the way.
    private static void oneBehindAnother() {
        NightDoors x = new NightDoors();
        for (int i = 0; i < 12; i++) {
            Check.tape(x, "dread a;dreamer d brave 1;fears d a 500;meet 1" + "+1".repeat(500) + "-" + i + ";");
            Check.due("dream " + i, x.dream(), 4);
            Check.due("a long SUM, " + i, x.weigh(0, 0, 2), 501 - i > 999 ? 999 : 501 - i);
            Check.due("a long QUESTION, " + i, Check.ask(x, 0, "most 1" + "+1".repeat(600) + "+" + i), 601 + i);
        }
    }

    private static void sum(String sum, int want) {
        NightDoors x = Check.dreaming("dread a;dread b;dread c;dreamer d brave 3;fears d a 10;fears d b 20;"
            + "byday " + sum + ";");
        Check.due("byday " + sum + " of b", x.weigh(0, 1, 4), want);
    }

    private static void sums() {
        sum("7", 7);
        sum("weigh", 20);
        sum("worst+1", 21);
        sum("sum", 30);
        sum("many", 2);
        sum("number", 1);
        sum("brave", 3);
        sum("20-3-4", 13);
        sum("2+3*4", 14);
        sum("(2+3)*4", 20);
        sum("100/7/2", 7);
        sum("7/2*2", 6);
        sum("100+(0-7)/2", 96);
        sum("100+7/(0-2)", 96);
        sum("100+(0-6)/2", 97);
        sum("5/0+2", 2);
        sum("5/(weigh-20)", 0);
        sum("min(4,9)+max(4,9)", 13);
        sum("min(9,4)*max(0-1,0-2)+5", 1);
        sum("0-1", 0);
        sum("1000", 999);
        sum("999", 999);
        sum("9999*9999-999*1000", 999);
        sum("9999*9999/1001", 999);
        sum("9999*9999/2000", 500);
        sum("(0-9999)*9999/2000+600", 100);
        sum("999*1000+999+9999-999*1000", 999);
        sum("(9999*9999+9999-9999*99)/100", 100);
        sum("(0-9999*9999-9999+9999*99)/100+200", 99);
        sum("9999*9999*0+5", 5);
    }
}
