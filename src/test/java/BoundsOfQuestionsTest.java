/**
 * Term IV of the document, and promises 31 to 34: each sentence that names a bound has a test of its own, headed by the
 * sentence's words, on both sides of the bound.
 */
public final class BoundsOfQuestionsTest {
    // ROOMS with a, b, a; ahead of them 30 20 5, 15 20 5, 15 10 5; e is HOME
    private static final String DREAM = "dread a;dread b;dread c;dreamer d brave 1;dreamer e brave 1;fears d a 30;"
        + "fears d b 20;fears d c 5;meet weigh/2;home 22;";

    public static void main(String[] args) {
        firstAndLast();
        noneOfNone();
        withoutRooms();
        ofAllTogether();
        mostAndLeast();
        signs();
        allHolds();
        andBeforeOr();
        sumsHeld();
        digits();
        roomsAsked();
        weightsOfNumbers();
        sumAheadOfRooms();
        noSuchQuestion();
        questionTooShort();
        whatStandsBehind();
        sideBySide();
        blanks();
        openAtOnce();
        notUntilItsFact();
        weighUntilItsPart();
        nobody();
        longest();
        imageBytes();
        imageCheck();
        octets();
        onThisDream();
        onWeights();
        onGuides();
        onRefusedAllStays();
        Check.end();
    }

    private static void answer(String question, long want) {
        NightDoors x = Check.dreaming(DREAM);
        Check.due(question, Check.ask(x, 0, question), want);
        Check.due("fault(0) of " + question, x.fault(0), 0);
        Check.due("fault(1) of " + question, x.fault(1), -1);
        Check.due("the tape goes: " + question, x.end(1), false);
    }

    private static void faulty(String question, int kind, int place) {
        NightDoors x = Check.dreaming(DREAM);
        Check.due("\"" + question + "\"", Check.ask(x, 0, question), NightDoors.NOTHING);
        Check.due("fault(0) of \"" + question + "\"", x.fault(0), kind);
        Check.due("fault(1) of \"" + question + "\"", x.fault(1), place);
        Check.due("the tape goes: " + question, x.end(1), false);
    }

    // "first TEST, last TEST (the first, the last ROOM in which it holds), often TEST (in how many)", from 0 on
    private static void firstAndLast() {
        int[][] due = {{-1, -1, 0}, {2, 2, 1}, {1, 1, 1}, {1, 2, 2}, {0, 0, 1}, {0, 2, 2}, {0, 1, 2}, {0, 2, 3}};
        for (int rooms = 0; rooms < 8; rooms++) {
            StringBuilder test = new StringBuilder("1=0");
            for (int k = 0; k < 3; k++) {
                test.append((rooms >> (2 - k) & 1) == 1 ? " or room=" + k : "");
            }
            answer("first " + test, due[rooms][0]);
            answer("last " + test, due[rooms][1]);
            answer("often " + test, due[rooms][2]);
        }
    }

    // "ask(): NONE of first, last, when its TEST holds in none"
    private static void noneOfNone() {
        answer("first not all", -1);
        answer("last not all", -1);
        answer("often not all", 0);
        answer("first room>2", -1);
        answer("last room>2", -1);
        answer("first room>1", 2);
        answer("last room<1", 0);
    }

    // "(.. 0 without ROOMS)"
    private static void withoutRooms() {
        NightDoors x = Check.dreaming(DREAM);
        String[] questions = {"first all", "last all", "often all", "total 7", "most 7", "least 7", "most 0-7", "least 0-7"};
        int[] due = {-1, -1, 0, 0, 0, 0, 0, 0};
        int[] one = {0, 0, 1, 7, 7, 7, -7, -7};
        for (int i = 0; i < questions.length; i++) {
            Check.due("without ROOMS: " + questions[i], Check.ask(x, 1, questions[i]), due[i]);
        }
        x.set(1, 0, 23);
        for (int i = 0; i < questions.length; i++) {
            Check.due("with one ROOM: " + questions[i], Check.ask(x, 1, questions[i]), one[i]);
        }
        NightDoors none = Check.dreaming("dreamer d brave 1;");
        for (int i = 0; i < questions.length; i++) {
            Check.due("without DREADS: " + questions[i], Check.ask(none, 0, questions[i]), due[i]);
        }
    }

    // "total SUM (of all together, not held)", "of the ROOMS AHEAD": 200 at most
    private static void ofAllTogether() {
        NightDoors x = Check.dreaming("dread a;dreamer d brave 1;fears d a 5;");
        Check.due("200 ROOMS", Check.ask(x, 0, "often all"), 200);
        Check.due("the last", Check.ask(x, 0, "last all"), 199);
        Check.due("total", Check.ask(x, 0, "total 9999*9999"), 200000000);
        Check.due("total below 0", Check.ask(x, 0, "total 0-9999*9999"), -200000000);
        Check.due("total of 0 to 199", Check.ask(x, 0, "total room"), 19900);
        Check.due("two are just above", Check.ask(x, 0, "total (1-min(room/2,1))*9999*9999"), 2000000);
    }

    // "most SUM, least SUM (the greatest, the least of all ..)"
    private static void mostAndLeast() {
        answer("most room", 2);
        answer("least room", 0);
        answer("most 2-room", 2);
        answer("least 2-room", 0);
        answer("most 0-room-1", -1);
        answer("least 0-room-1", -3);
        answer("most (room-1)*(room-1)", 1);
        answer("least (room-1)*(room-1)", 0);
        answer("most 1-(room-1)*(room-1)", 1);
        answer("least 1-(room-1)*(room-1)", 0);
        answer("most 0-(room-1)*(room-1)-5", -5);
        answer("least 0-(room-1)*(room-1)-5", -6);
    }

    // "SUM SIGN SUM, SIGN < or > or ="
    private static void signs() {
        String[] left = {"4", "5", "6", "0-6", "0-5", "0-4"};
        String[] right = {"5", "5", "5", "0-5", "0-5", "0-5"};
        for (int i = 0; i < 6; i++) {
            int than = i % 3 - 1;
            answer("often " + left[i] + "<" + right[i], than < 0 ? 3 : 0);
            answer("often " + left[i] + ">" + right[i], than > 0 ? 3 : 0);
            answer("often " + left[i] + "=" + right[i], than == 0 ? 3 : 0);
        }
    }

    // "FACT: not FACT; [ TEST ] ; all; .."
    private static void allHolds() {
        answer("often all", 3);
        answer("often not all", 0);
        answer("often [all]", 3);
        answer("often not not all", 3);
        answer("often not [not all]", 3);
        answer("often not room=1", 2);
        answer("often not[room=1]", 2);
    }

    // "TEST: BOTH { or BOTH }. BOTH: FACT { and FACT }"
    private static void andBeforeOr() {
        String[] facts = {"not all", "all"};
        for (int i = 0; i < 8; i++) {
            boolean a = (i & 1) == 1;
            boolean b = (i & 2) == 2;
            boolean c = (i & 4) == 4;
            String x = facts[i & 1];
            String y = facts[i >> 1 & 1];
            String z = facts[i >> 2 & 1];
            answer("often " + x + " or " + y + " and " + z, a || b && c ? 3 : 0);
            answer("often " + x + " and " + y + " or " + z, a && b || c ? 3 : 0);
            answer("often [" + x + " or " + y + "] and " + z, (a || b) && c ? 3 : 0);
            answer("often " + x + " and [" + y + " or " + z + "]", a && (b || c) ? 3 : 0);
            answer("often " + x + " and " + y + " and " + z, a && b && c ? 3 : 0);
            answer("often " + x + " or " + y + " or " + z, a || b || c ? 3 : 0);
            answer("often not " + x + " and " + y, !a && b ? 3 : 0);
            answer("often not [" + x + " and " + y + "]", !(a && b) ? 3 : 0);
        }
    }

    // "SUM as in I": "each sum, difference, product above 10 to the 6 is that, below -10 to the 6 likewise", "/ .."
    private static void sumsHeld() {
        answer("most 999*1000+999", 999999);
        answer("most 999*1000+999+1", 1000000);
        answer("most 999*1000+999+1+1", 1000000);
        answer("most 999*1000+999-(0-1)", 1000000);
        answer("most 999*1000+999-(0-2)", 1000000);
        answer("most 999*1001", 999999);
        answer("most 1000*1000", 1000000);
        answer("most 1000*1001", 1000000);
        answer("most 9999*9999*9999*9999", 1000000);
        answer("most (9999*9999)*(9999*9999)", 1000000);
        answer("most (0-9999*9999)*(0-9999*9999)", 1000000);
        answer("most 0-999*1000-999", -999999);
        answer("most 0-999*1000-999-1", -1000000);
        answer("most 0-999*1000-999-2", -1000000);
        answer("most 0-999*1000-999+(0-1)", -1000000);
        answer("most 0-999*1000-999+(0-2)", -1000000);
        answer("most (0-999)*1001", -999999);
        answer("most (0-1000)*1000", -1000000);
        answer("most 1001*(0-1000)", -1000000);
        answer("most (0-9999*9999)*(9999*9999)", -1000000);
        answer("most 9999*9999+1-1", 999999);
        answer("most 0-9999*9999-1+1", -999999);
        answer("most 9999*9999/(0-1)", -1000000);
        answer("most (0-9999*9999)/(0-1)", 1000000);
        answer("most 7/2", 3);
        answer("most (0-7)/2", -4);
        answer("most 7/(0-2)", -4);
        answer("most (0-7)/(0-2)", 3);
        answer("most 7/0", 0);
        answer("most (0-7)/0", 0);
        answer("most min(3,3)+min(3,4)+min(4,3)", 9);
        answer("most max(3,3)+max(3,4)+max(4,3)", 11);
        answer("most min(0-1,0)", -1);
        answer("most max(0-1,0)", 0);
    }

    // "N (1 to 4 digits)"; "where a number is asked, a 5th digit at itself"
    private static void digits() {
        answer("most 1", 1);
        answer("most 12", 12);
        answer("most 123", 123);
        answer("most 1234", 1234);
        answer("most 9999", 9999);
        answer("most 0000", 0);
        answer("most 0007", 7);
        faulty("most 12345", 1, 9);
        faulty("most 00000", 1, 9);
        faulty("most 123456789", 1, 9);
        faulty("first 1<12345", 1, 12);
        faulty("first 12345<1", 1, 10);
        faulty("most weigh 12345", 1, 15);
        faulty("most room 12345", 1, 10);
        faulty("12345 room", 1, 0);
    }

    // "room; dread": "(The ROOM; the number of the DREAD he is with in it ..)"
    private static void roomsAsked() {
        answer("total room", 3);
        answer("first room=0", 0);
        answer("first room=2", 2);
        answer("first room=3", -1);
        answer("total dread", 1);
        answer("first dread=1", 1);
        NightDoors x = Check.dreaming("dread a;dread b;dread c;dread d;dread e;dread f;dreamer g brave 1;fears g f 5;meet 0;");
        Check.due("the last DREAD", Check.ask(x, 0, "most dread"), 5);
        Check.due("its weight", Check.ask(x, 0, "most weigh dread"), 5);
        // What he is with is his WORST, by what COUNTS.
        NightDoors led = Check.dreaming("dread a;dread b;dreamer d brave 1;guide g of b;fears d a 9;fears d b 3;meet 0;home 9;");
        Check.due("alone", Check.ask(led, 0, "most dread"), 0);
        led.take(0, 0);
        Check.due("led", Check.ask(led, 0, "most dread"), 1);
        Check.due("the greatest weight", Check.ask(led, 0, "most worst"), 9);
    }

    // "the weight of the DREAD of that number ahead of it, 0 of numbers that there are not"
    private static void weightsOfNumbers() {
        int[] due = {60, 50, 15, 0, 0, 0, 0, 0};
        for (int n = 0; n < due.length; n++) {
            answer("total weigh " + n, due[n]);
            answer("total weigh(" + n + ")", due[n]);
        }
        answer("total weigh 9999", 0);
        answer("total weigh(0-1)", 0);
        answer("total weigh(0-2)", 0);
        answer("total weigh(9999*9999)", 0);
        answer("total weigh(0-9999*9999)", 0);
        answer("total weigh weigh 2", 0);
        answer("total weigh(weigh 2/5)", 50);
        answer("total weigh(weigh 2-4)", 50);
        answer("total weigh room", 55);
        // A DREAM of more DREADS was there before: what there are not any more weigh nothing.
        NightDoors x = Check.dreaming("dread a;dread b;dread c;dreamer d brave 1;fears d a 9;fears d b 9;fears d c 9;");
        Check.ask(x, 0, "total sum");
        Check.tape(x, "dread a;dreamer d brave 1;fears d a 5;meet 0;");
        x.dream();
        Check.due("the one", Check.ask(x, 0, "total weigh 0"), 5);
        Check.due("b went", Check.ask(x, 0, "total weigh 1"), 0);
        Check.due("c went", Check.ask(x, 0, "total weigh 2"), 0);
        Check.due("all together", Check.ask(x, 0, "total sum"), 5);
    }

    // "(.. the greatest of his weights ahead of it, all together, how many are above 0 ..)"
    private static void sumAheadOfRooms() {
        answer("total worst", 30 + 20 + 15);
        answer("total sum", 55 + 40 + 30);
        answer("total many", 9);
        NightDoors x = Check.dreaming("dread a;dread b;dreamer d brave 1;fears d a 2;fears d b 1;meet 0;");
        Check.due("many, first", Check.ask(x, 0, "most many"), 2);
        Check.due("many, then", Check.ask(x, 0, "least many"), 1);
        Check.due("worst, then", Check.ask(x, 0, "least worst"), 1);
    }

    // "1 as in I (an unknown word at its first byte ..)"
    private static void noSuchQuestion() {
        String[] heads = {"", "first ", "first not ", "first [ ", "first all and ", "first all or ", "total ", "total 1 + ",
            "total ( ", "total weigh ", "total min ( ", "total max ( 1 , ", "first 1 < ", "first 1 + 2 = "};
        for (String head : heads) {
            for (String what : new String[] {"foo", "brave", "number", "dog", "abcdefghij", "%", "A", ")", "]", ",", ";", "<",
                "+", "\u00e9", "\t", "\u0000", "firsts", "and", "or"}) {
                faulty(head + what, 1, head.length());
            }
        }
        for (String what : new String[] {"5", "(", "[", "all", "not", "room", "weigh"}) {
            faulty(what + " all", 1, 0);
        }
        for (String own : "dreamer fears guide of meet shun byday home laugh spite number brave".split(" ")) {
            faulty("total " + own, 1, 6);
            faulty(own + " 1", 1, 0);
        }
        for (String head : new String[] {"total", "most", "least"}) {
            faulty(head + " all", 1, head.length() + 1);
            faulty(head + " not all", 1, head.length() + 1);
            faulty(head + " [1]", 1, head.length() + 1);
            faulty(head + " 1=1", 1, head.length() + 2);
        }
        for (String head : new String[] {"first", "last", "often"}) {
            faulty(head + " 1", 1, head.length() + 2);
            faulty(head + " (all)", 1, head.length() + 2);
            faulty(head + " (1=1)", 1, head.length() + 3);
            faulty(head + " [1]", 1, head.length() + 3);
        }
        faulty("total weigh+1", 1, 11);
        faulty("total min", 1, 9);
        faulty("total min 1", 1, 10);
        faulty("total min(1)", 1, 11);
        faulty("total min(1,2,3)", 1, 13);
    }

    // "1 .. at the text's length, if it ends too soon"
    private static void questionTooShort() {
        String[] tokens = ("often not [ room < weigh ( min ( 1 , dread ) + 2 ) / 3 and all or sum - many = max ( worst , 4 )"
            + " ] or 7 * 8 > 9").split(" ");
        StringBuilder text = new StringBuilder();
        for (int n = 0; n <= tokens.length; n++) {
            String head = text.toString();
            faulty(head + "%", 1, head.length());
            // Behind ] and behind the last number the QUESTION may end.
            if (n == tokens.length || n > 0 && tokens[n - 1].equals("]")) {
                answer(head, n == tokens.length ? 3 : 2);
                answer(head.trim(), n == tokens.length ? 3 : 2);
            } else {
                faulty(head, 1, head.length());
                faulty(head.trim(), 1, head.trim().length());
                faulty(head + "\n ", 1, head.length() + 2);
            }
            if (n < tokens.length) {
                text.append(tokens[n]).append(" ");
            }
        }
        answer("often not [room<weigh(min(1,dread)+2)/3 and all or sum-many=max(worst,4)] or 7*8>9", 3);
        faulty("firs", 1, 0);
        faulty("first al", 1, 6);
    }

    // "(.. what stands behind it, too)": at its first byte
    private static void whatStandsBehind() {
        for (String what : new String[] {"all", "foo", "1", "%", ")", "]", ";", "(", "[", "not", "first", "12345", "abcdefgh"}) {
            faulty("first all " + what, 1, 10);
            faulty("first all \n " + what, 1, 12);
            faulty("total 1 " + what, 1, 8);
            faulty("total (1) " + what, 1, 10);
        }
        faulty("first 1<2<3", 1, 9);
        faulty("first 1<=2", 1, 8);
        answer("first all \n ", 0);
    }

    // "(words and numbers side by side need one)"
    private static void sideBySide() {
        faulty("firstall", 1, 0);
        faulty("first1<2", 1, 5);
        faulty("total1", 1, 5);
        faulty("totalroom", 1, 0);
        faulty("first notall", 1, 6);
        faulty("first allor all", 1, 6);
        faulty("first all orall", 1, 10);
        faulty("first room=3and all", 1, 12);
        faulty("first room=3 and1=1", 1, 16);
        faulty("first not1=1", 1, 9);
        faulty("total weigh1", 1, 11);
        faulty("total weighroom", 1, 6);
        faulty("total 1room", 1, 7);
        faulty("total room1", 1, 10);
        answer("first[all]", 0);
        answer("first not[all]or[all]", 0);
        answer("first[room=1]and not[room=0]", 1);
        answer("total(1)*weigh(2)+min(1,2)", 18);
    }

    // "Blanks (10, 32) are where one likes", and no other byte
    private static void blanks() {
        answer(" \n often\n [ room \n<1 ] \n", 1);
        for (int b = 0; b < 256; b++) {
            String sign = String.valueOf((char) b);
            if (b == 10 || b == 32) {
                answer(sign + "most" + sign + "5" + sign, 5);
            } else {
                faulty(sign + "most 5", 1, 0);
                if (b < '0' || b > '9') {
                    faulty("most " + sign + " 5", 1, b == '(' ? 8 : 5);
                    faulty("most 5" + sign, 1, b == '+' || b == '-' || b == '*' || b == '/' ? 7 : 6);
                }
            }
        }
    }

    // "4 the 7th of ( [ not weigh that is open at once .., at it"
    private static void openAtOnce() {
        for (int n = 1; n <= 8; n++) {
            boolean right = n <= 6;
            String[] texts = {"often " + "[".repeat(n) + "all" + "]".repeat(n), "often " + "not ".repeat(n) + "all",
                "most " + "(".repeat(n) + "1" + ")".repeat(n), "most " + "weigh ".repeat(n) + "9",
                "most " + "min(".repeat(n) + "1" + ",2)".repeat(n), "most " + "max(1,".repeat(n) + "1" + ")".repeat(n)};
            int[] places = {12, 30, 11, 41, 32, 44};
            // Of 30, 15 and 15 the most; a DREAD of 9, or of a weight, there is not.
            int[] answers = {3, n % 2 == 0 ? 3 : 0, 1, n % 2 == 0 ? 30 : 0, 1, 1};
            for (int i = 0; i < texts.length; i++) {
                if (right) {
                    answer(texts[i], answers[i]);
                } else {
                    faulty(texts[i], 4, places[i]);
                }
            }
        }
        // weigh 9 is 0, weigh 0 is 30, 15, 15, weigh of those 0, and so on by turns.
        answer("total weigh weigh weigh weigh weigh weigh 9", 60);
        answer("total weigh weigh weigh weigh weigh 9", 0);
        // Of all kinds together
        faulty("often not [not [(weigh (", 4, 23);
        faulty("often not [not [(weigh weigh", 4, 23);
        answer("often not [not [(weigh 2)=5]]", 3);
        faulty("often [[[[[[not all]]]]]]", 4, 12);
        faulty("often not not not not not not [all]", 4, 30);
        faulty("often not not not not not not (1)=1", 4, 30);
        faulty("often not not not not not not weigh 1=1", 4, 30);
        faulty("often [[[[[[weigh 1=1]]]]]]", 4, 12);
        faulty("often [[[[[[min(1,2)=1]]]]]]", 4, 15);
        answer("often [[[[[[1=1]]]]]]", 3);
        faulty("most ((((((1(", 1, 12);
        faulty("most ((((((min", 1, 14);
        faulty("most ((((((%", 1, 11);
    }

    // "(not until its FACT ..)": a not is open until its FACT ends
    private static void notUntilItsFact() {
        answer("often not all and [[[[[[all]]]]]] or all", 3);
        answer("often not 1=2 and [[[[[[all]]]]]]", 3);
        answer("often not not not 1=2 and not not not 1=2 and [[[[[[all]]]]]]", 3);
        answer("often not [all] or [[[[[[all]]]]]]", 3);
        answer("often not (((((1)))))=1 or all", 3);
        faulty("often not ((((((1))))))=1", 4, 15);
        faulty("often not 1=((((((1))))))", 4, 17);
        answer("often not 1=(((((1)))))", 0);
        faulty("often not 1<((1)+(((((2", 4, 21);
        faulty("often not [1=1 and (((((1)))))=1", 4, 23);
    }

    // "(.. weigh until its PART ends)"
    private static void weighUntilItsPart() {
        answer("most weigh 2+((((((1))))))", 6);
        answer("most weigh 2*weigh weigh weigh weigh weigh weigh 9", 150);
        answer("most weigh (2)+((((((1))))))", 6);
        answer("most weigh(((((2)))))", 5);
        faulty("most weigh((((((2))))))", 4, 15);
        answer("most weigh min((((2)))+1-1,9)", 5);
        answer("most weigh(weigh(weigh(2)))", 30);
        faulty("most weigh weigh weigh weigh weigh weigh (2)", 4, 41);
        faulty("most weigh(weigh(weigh(weigh", 4, 23);
        answer("most (((((weigh 2)))))", 5);
        faulty("most ((((((weigh 2))))))", 4, 11);
    }

    // "NOTHING .. (the tape goes, nothing else is done, fault() stays) when there is none such"
    private static void nobody() {
        for (String before : new String[] {"total 1", "total %", "total ((((((("}) {
            NightDoors x = Check.dreaming(DREAM);
            Check.ask(x, 0, before);
            int kind = x.fault(0);
            int place = x.fault(1);
            for (int d : new int[] {-1, 2, 3, 4, Integer.MIN_VALUE, Integer.MAX_VALUE}) {
                for (String question : new String[] {"total 1", "total ?", ""}) {
                    String all = All.of(x);
                    Check.due("of DREAMER " + d, Check.ask(x, d, question), NightDoors.NOTHING);
                    Check.due("the tape goes", x.end(1), false);
                    Check.due("fault(0) stays", x.fault(0), kind);
                    Check.due("fault(1) stays", x.fault(1), place);
                    Check.due("nothing is done", All.of(x).equals(all), true);
                }
            }
            Check.due("refused, nothing", x.status(1), 0);
        }
        NightDoors none = new NightDoors();
        Check.due("of nobody", Check.ask(none, 0, "total ?"), NightDoors.NOTHING);
        Check.due("ahead of any", none.fault(0), 0);
        Check.due("ahead of any, its place", none.fault(1), -1);
    }

    // A QUESTION as long as the tape, 1600 bytes
    private static void longest() {
        String text = "most 1" + "+1".repeat(797);
        Check.due("its length", text.length(), 1600);
        answer(text, 798);
        faulty(text.substring(0, 1599), 1, 1599);
        faulty(text.substring(0, 1599) + "%", 1, 1599);
        String tests = "often all" + " and all".repeat(198) + " or all";
        Check.due("its length", tests.length(), 1600);
        answer(tests, 3);
    }

    private static byte[] withCheck(int... bytes) {
        byte[] all = new byte[bytes.length + 1];
        int c = 181;
        for (int i = 0; i < bytes.length; i++) {
            all[i] = (byte) bytes[i];
            c = (3 * c + bytes[i]) % 251;
        }
        all[bytes.length] = (byte) c;
        return all;
    }

    // "for each DREAMER the GUIDE along and 1 (0 none), each weight (two bytes, the higher first)"
    private static void imageBytes() {
        NightDoors x = Check.dreaming("dread a;dreamer d brave 1;guide g of a;guide h of a;guide i of a;guide j of a;");
        int[] weights = {0, 1, 255, 256, 257, 511, 512, 767, 768, 998, 999};
        for (int n : weights) {
            x.set(0, 0, n);
            Check.due("image() of " + n, x.image(), 4);
            Check.due("the higher byte of " + n, x.octet(1), n / 256);
            Check.due("the lower byte of " + n, x.octet(2), n % 256);
            Check.due("its last byte", x.octet(3), ((181 * 3 % 251 * 3 + n / 256) % 251 * 3 + n % 256) % 251);
        }
        for (int g = 0; g < 4; g++) {
            x.take(0, g);
            x.image();
            Check.due("GUIDE " + g, x.octet(0), g + 1);
        }
        x.take(0, -1);
        x.image();
        Check.due("none", x.octet(0), 0);
    }

    // "image(): AN IMAGE is written: how many bytes"; "last a byte: all ahead from 181 on, c = (3 c + it) mod 251"
    private static void imageCheck() {
        for (int dreads = 0; dreads <= 6; dreads++) {
            for (int dreamers = 0; dreamers <= 4; dreamers++) {
                StringBuilder text = new StringBuilder();
                for (int i = 0; i < dreads; i++) {
                    text.append("dread ").append((char) ('a' + i)).append(";");
                }
                for (int i = 0; i < dreamers; i++) {
                    text.append("dreamer ").append((char) ('p' + i)).append(" brave 0;");
                }
                NightDoors x = Check.dreaming(text.toString());
                for (int i = 0; i < dreamers; i++) {
                    for (int j = 0; j < dreads; j++) {
                        x.set(i, j, (i * 997 + j * 331 + 250) % 1000);
                    }
                }
                int size = dreamers * (1 + 2 * dreads) + 1;
                Check.due("image()", x.image(), size);
                int c = 181;
                byte[] all = new byte[size];
                for (int k = 0; k < size; k++) {
                    all[k] = (byte) x.octet(k);
                    c = k < size - 1 ? (3 * c + x.octet(k)) % 251 : c;
                }
                Check.due("the last byte", x.octet(size - 1), c);
                Check.due("behind it", x.octet(size), -1);
                for (int i = 0; i < dreamers && dreads > 0; i++) {
                    x.set(i, dreads - 1, 7);
                }
                Check.tape(x, all);
                Check.due("on()", x.on(), true);
                for (int i = 0; i < dreamers; i++) {
                    for (int j = 0; j < dreads; j++) {
                        Check.due("as it tells", x.weigh(i, j, 0), (i * 997 + j * 331 + 250) % 1000);
                    }
                }
            }
        }
    }

    // "octet(): Byte k of the latest image(); NONE when there is none such."
    private static void octets() {
        NightDoors x = new NightDoors();
        for (int k : new int[] {0, 1, -1, 52, 53}) {
            Check.due("ahead of any, " + k, x.octet(k), -1);
        }
        x.image();
        Check.due("of none", x.octet(0), 181);
        Check.due("of none, behind it", x.octet(1), -1);
        Check.tape(x, DREAM);
        x.dream();
        Check.due("the latest", x.octet(0), 181);
        Check.due("the latest, behind it", x.octet(1), -1);
        Check.due("image()", x.image(), 15);
        for (int k : new int[] {-1, 15, 16, 52, 53, 54, 1600, Integer.MIN_VALUE, Integer.MAX_VALUE}) {
            Check.due("octet " + k, x.octet(k), -1);
        }
        Check.due("the last", x.octet(14) >= 0, true);
        Check.due("30", x.octet(2), 30);
        x.set(0, 0, 31);
        Check.due("the latest", x.octet(2), 30);
        x.image();
        Check.due("a later one", x.octet(2), 31);
    }

    // "on(): The tape (it goes) is AN IMAGE of this DREAM: true, all is as it tells, nothing can be undone"
    private static void onThisDream() {
        NightDoors x = Check.dreaming("dread a;dreamer d brave 1;guide g of a;");
        int[][] images = {{}, {0}, {0, 0}, {0, 0, 5}, {0, 0, 5, 0}, {0, 0, 5, 0, 0, 5}, {1, 0, 5}};
        for (int i = 0; i < images.length; i++) {
            boolean right = images[i].length == 3;
            x.set(0, 0, 77);
            Check.tape(x, withCheck(images[i]));
            Check.due("image " + i, x.on(), right);
            Check.due("the tape goes, " + i, x.end(1), false);
            Check.due("the weight, " + i, x.weigh(0, 0, 0), right ? 5 : 77);
            Check.due("undone, " + i, x.has(7) == 0, right);
        }
        Check.due("g is along", x.dreamer(0, 1), 0);
        Check.due("refused", x.status(5), 5);
        // The last byte must be just that.
        for (int b = 0; b < 256; b++) {
            byte[] image = withCheck(0, 1, 44);
            boolean right = image[3] == (byte) b;
            image[3] = (byte) b;
            Check.tape(x, image);
            Check.due("last byte " + b, x.on(), right);
        }
        Check.tape(x, "");
        Check.due("an empty tape", x.on(), false);
        NightDoors none = new NightDoors();
        Check.due("an empty tape, without DREAMERS", none.on(), false);
        Check.tape(none, withCheck());
        Check.due("181", none.on(), true);
        Check.tape(none, withCheck(0));
        Check.due("a byte more", none.on(), false);
    }

    // "(weights 999 at most ..)"
    private static void onWeights() {
        int[] weights = {0, 1, 255, 256, 998, 999, 1000, 1001, 1023, 1024, 32767, 32768, 65535};
        for (int n : weights) {
            for (int at = 0; at < 4; at++) {
                NightDoors x = Check.dreaming("dread a;dread b;dreamer d brave 1;dreamer e brave 1;");
                int[] image = new int[10];
                image[at / 2 * 5 + at % 2 * 2 + 1] = n / 256;
                image[at / 2 * 5 + at % 2 * 2 + 2] = n % 256;
                Check.tape(x, withCheck(image));
                Check.due("weight " + n + " at " + at, x.on(), n <= 999);
                Check.due("is there", x.weigh(at / 2, at % 2, 0), n <= 999 ? n : 0);
                Check.due("refused", x.status(5), n <= 999 ? 0 : 1);
            }
        }
    }

    // "(.. GUIDES that there are)"
    private static void onGuides() {
        for (int guides = 0; guides <= 4; guides++) {
            StringBuilder text = new StringBuilder("dread a;dreamer d brave 1;dreamer e brave 1;");
            for (int i = 0; i < guides; i++) {
                text.append("guide ").append((char) ('p' + i)).append(" of a;");
            }
            for (int g : new int[] {0, 1, 2, 3, 4, 5, 127, 128, 255}) {
                for (int who = 0; who < 2; who++) {
                    NightDoors x = Check.dreaming(text.toString());
                    int[] image = new int[6];
                    image[who * 3] = g;
                    Check.tape(x, withCheck(image));
                    Check.due("GUIDE " + g + " of " + guides, x.on(), g <= guides);
                    Check.due("is along", x.dreamer(who, 1), g <= guides ? g - 1 : -1);
                }
            }
        }
    }

    // "false, refused (5), when it is none .., all staying"
    private static void onRefusedAllStays() {
        int[][] wrong = {{2, 1, 44, 0, 7, 0, 0, 0, 3, 232}, {2, 3, 232, 0, 7, 0, 0, 0, 3, 231}, {3, 1, 44, 0, 7, 0, 0, 0, 3, 231},
            {2, 1, 44, 0, 7, 3, 0, 0, 3, 231}, {2, 1, 44, 0, 7, 0, 0, 0, 3}, {2, 1, 44, 0, 7, 0, 0, 0, 3, 231, 0}};
        for (int[] image : wrong) {
            NightDoors x = Check.dreaming("dread a;dread b;dreamer d brave 2;dreamer e brave 2;guide g of b;guide h of a;"
                + "fears d a 300;fears d b 7;fears e b 999;meet weigh-4;home 5;");
            x.take(1, 1);
            x.set(0, 1, 8);
            x.image();
            String all = All.of(x);
            Check.tape(x, withCheck(image));
            Check.due("on()", x.on(), false);
            Check.due("all stays", All.of(x).equals(all), true);
            Check.due("refused", x.status(5), 1);
            Check.due("the ACTS stay", x.undo(), true);
            Check.due("undone", x.weigh(0, 1, 0), 7);
        }
    }
}
