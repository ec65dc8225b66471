/**
 * Term I of the document, and promises 4 and 5: each sentence that names a bound has a test of its own, headed by the
 * sentence's words, on both sides of the bound.
 */
public final class BoundsOfDreamsTest {
    private static final String[] OWN_WORDS = ("dread dreamer brave fears guide of meet shun byday home laugh spite"
        + " weigh worst sum many number min max").split(" ");
    private static final String SIX = "dread a;dread b;dread c;dread d;dread e;dread f;";
    private static final String FOUR = "dreamer g brave 0;dreamer h brave 0;dreamer i brave 0;dreamer j brave 0;";
    private static final String GUIDES = "guide k of a;guide l of a;guide m of f;guide n of b;";
    private static final String SUMS = "meet 1;shun 1;byday 1;";
    private static final String ONE = "dread a;dreamer d brave 5;";

    public static void main(String[] args) {
        statements();
        whateverStandsThere();
        dreads();
        dreamers();
        brave();
        fears();
        guides();
        oneEach();
        home();
        laugh();
        spite();
        theLastOneCounts();
        withoutBehindOthers();
        digits();
        wholeNumberNotAbove();
        byNothing();
        sumsHeld();
        differencesHeld();
        productsHeld();
        fromTheLeftOn();
        lettersOfNames();
        ownWords();
        nearlyOwnWords();
        unlikeNames();
        namesToldAhead();
        namesOfWhatIsAsked();
        blanks();
        sideBySide();
        noSuchText();
        textTooShort();
        textCutOff();
        oneTextBehindAnother();
        openAtOnce();
        openOneBehindAnother();
        firstAlongTheText();
        faultOf();
        longestText();
        Check.end();
    }

    // "{ STATEMENT ; } (70 at most)"; "dream(): how many STATEMENTS"
    private static void statements() {
        for (int n : new int[] {0, 1, 2, 69, 70}) {
            Check.right("home 1;".repeat(n), n);
            Check.right("home 1;".repeat(n) + " \n ", n);
        }
        Check.faulty("home 1;".repeat(71), 5, 490);
        Check.faulty("home 1;".repeat(90), 5, 490);
        String ofAll = SIX + FOUR + GUIDES + SUMS;
        Check.right(ofAll + "laugh 1;".repeat(53), 70);
        Check.faulty(ofAll + "laugh 1;".repeat(54), 5, ofAll.length() + 53 * 8);
        Check.faulty("home 1;".repeat(69) + "home x;", 1, 488);
        Check.faulty("home 1;".repeat(69) + "laugh 101;", 2, 489);
        Check.faulty("home 1;".repeat(69) + "home 1", 1, 489);
        Check.faulty("home 1;".repeat(69) + "?", 1, 483);
    }

    // "5 .. a 71st STATEMENT (whatever stands there), at its first byte"
    private static void whateverStandsThere() {
        String seventy = "home 1;".repeat(70);
        for (String what : new String[] {"home 1;", "?", ";", "x", "1", "(", "\u0000", "\u00ff", "\t", "dread of;",
            "meet", "fears q q 1;", "laugh 101;", "12345", "abcdefgh"}) {
            Check.faulty(seventy + what, 5, 490);
            Check.faulty(seventy + " \n" + what, 5, 492);
        }
    }

    // "dread NAME (6 DREADS)"; "5 one too many of a kind .., at its first byte"
    private static void dreads() {
        Check.right(SIX.substring(0, 40), 5);
        Check.right(SIX, 6);
        Check.due("six DREADS", Check.dreaming(SIX).has(0), 6);
        Check.faulty(SIX + "dread g;", 5, 48);
        Check.faulty(SIX + "home 1; \ndread g;", 5, 57);
        Check.faulty(SIX + "dread a;", 5, 48);
        Check.faulty(SIX + "dread", 5, 48);
    }

    // "4 DREAMERS"
    private static void dreamers() {
        Check.right(FOUR.substring(0, 54), 3);
        Check.right(FOUR, 4);
        Check.due("four DREAMERS", Check.dreaming(FOUR).has(1), 4);
        Check.faulty(FOUR + "dreamer k brave 0;", 5, 72);
        Check.faulty(FOUR + "\ndreamer g", 5, 73);
        Check.faulty(FOUR + "dreamer", 5, 72);
        Check.right(SIX + FOUR, 10);
    }

    // "dreamer NAME brave N (0 .. 9 ..)"; "2 a number that can't be, at it"
    private static void brave() {
        for (int n = 0; n <= 9; n++) {
            Check.due("brave " + n, Check.dreaming("dreamer d brave " + n + ";").dreamer(0, 0), n);
            Check.due("brave 000" + n, Check.dreaming("dreamer d brave 000" + n + ";").dreamer(0, 0), n);
        }
        for (String n : new String[] {"10", "11", "99", "010", "0010", "999", "9999"}) {
            Check.faulty("dreamer d brave  " + n + ";", 2, 17);
        }
    }

    // "fears NAME NAME N (.. 0 .. 999; the last one of these two counts; 0 without)"
    private static void fears() {
        for (int n : new int[] {0, 1, 998, 999}) {
            Check.due("fears " + n, Check.dreaming(ONE + "fears d a " + n + ";").weigh(0, 0, 0), n);
        }
        Check.faulty(ONE + "fears d a 1000;", 2, 36);
        Check.faulty(ONE + "fears d a 9999;", 2, 36);
        NightDoors x = Check.dreaming("dread a;dread b;dread c;dreamer d brave 5;dreamer e brave 5;fears d a 5;"
            + "fears d b 6;fears e a 7;fears e b 8;fears d a 9;fears e b 0;");
        int[][] due = {{9, 6, 0}, {7, 0, 0}};
        for (int i = 0; i < 2; i++) {
            for (int j = 0; j < 3; j++) {
                Check.due("fears of " + i + " " + j, x.weigh(i, j, 0), due[i][j]);
            }
        }
    }

    // "guide NAME of NAME (a DREAD; 4 GUIDES)"
    private static void guides() {
        Check.right(SIX + GUIDES.substring(0, 39), 9);
        Check.right(SIX + GUIDES, 10);
        Check.due("four GUIDES", Check.dreaming(SIX + GUIDES).has(2), 4);
        Check.faulty(SIX + GUIDES + "guide o of a;", 5, 100);
        Check.faulty(SIX + GUIDES + " guide k", 5, 101);
        Check.faulty(SIX + GUIDES + "guide", 5, 100);
        Check.due("of the first DREAD", Check.dreaming(SIX + GUIDES).guide(0), 0);
        Check.due("of the last DREAD", Check.dreaming(SIX + GUIDES).guide(2), 5);
    }

    // "meet SUM, shun SUM, byday SUM (one each)"; "5 .. (a second meet, shun, byday, too)"
    private static void oneEach() {
        for (String kind : new String[] {"meet", "shun", "byday"}) {
            Check.right(kind + " 0;", 1);
            Check.faulty(kind + " 0;home 1;" + kind + " 0;", 5, kind.length() + 10);
            Check.faulty(kind + " weigh;" + kind, 5, kind.length() + 7);
            Check.faulty(SUMS + " " + kind + " of", 5, 23);
        }
        Check.right("byday 1;meet 1;shun 1;", 3);
    }

    // "home N (0 .. 9999)"
    private static void home() {
        for (int n : new int[] {0, 1, 9998, 9999}) {
            Check.due("home " + n, Check.dreaming("home " + n + ";").has(3), n);
        }
        Check.faulty("home 10000;", 1, 9);
    }

    // "laugh N (0 .. 100)"
    private static void laugh() {
        for (int n : new int[] {0, 1, 99, 100}) {
            Check.due("laugh " + n, Check.dreaming("laugh " + n + ";").has(4), n);
        }
        for (int n : new int[] {101, 102, 999, 9999}) {
            Check.faulty("laugh " + n + ";", 2, 6);
        }
    }

    // "spite N (0 .. 999)"
    private static void spite() {
        for (int n : new int[] {0, 1, 998, 999}) {
            Check.due("spite " + n, Check.dreaming("spite " + n + ";").has(5), n);
        }
        for (int n : new int[] {1000, 1001, 9999}) {
            Check.faulty("spite\n" + n + ";", 2, 6);
        }
    }

    // "the last one of each counts (0 without)"
    private static void theLastOneCounts() {
        NightDoors x = Check.dreaming("home 7;laugh 8;spite 9;home 4;laugh 5;spite 6;");
        Check.due("the last home", x.has(3), 4);
        Check.due("the last laugh", x.has(4), 5);
        Check.due("the last spite", x.has(5), 6);
        NightDoors zero = Check.dreaming("home 7;laugh 8;spite 9;spite 0;laugh 0;home 0;");
        NightDoors none = Check.dreaming("dread a;");
        for (int what = 3; what <= 5; what++) {
            Check.due("0 is the last: has(" + what + ")", zero.has(what), 0);
            Check.due("0 without: has(" + what + ")", none.has(what), 0);
        }
    }

    // "(0 without)": whatever was told in an older DREAM, or in a text with a FAULT
    private static void withoutBehindOthers() {
        String full = ONE + "dread b;fears d a 8;fears d b 9;home 7;laugh 6;spite 5;meet 1;shun 2;byday 3;";
        String[] between = {full, full + "?", full + "laugh 101;", full + "meet 1;", ONE + "home 1;", ""};
        for (String first : between) {
            for (String second : between) {
                NightDoors x = Check.dreaming(full);
                for (String text : new String[] {first, second, ONE + "dread b;"}) {
                    Check.tape(x, text);
                    x.dream();
                }
                for (int what = 3; what <= 5; what++) {
                    Check.due("0 without: has(" + what + ")", x.has(what), 0);
                }
                for (int dread = 0; dread < 2; dread++) {
                    Check.due("0 without: fears", x.weigh(0, dread, 0), 0);
                    x.set(0, dread, 4);
                    for (int what = 2; what <= 4; what++) {
                        Check.due("no SUM " + what, x.weigh(0, dread, what), 4);
                    }
                }
            }
        }
    }

    // "N (1 to 4 digits)"; "where a number is asked, a 5th digit at itself", elsewhere "numbers whole, at their first
    // byte"
    private static void digits() {
        String[] asked = {"home ", "laugh ", "spite ", "dreamer d brave ", ONE + "fears d a ", "meet ", "shun 1+",
            "byday ("};
        for (String head : asked) {
            Check.faulty(head + ";", 1, head.length());
            Check.faulty(head + "00001;", 1, head.length() + 4);
            Check.faulty(head + "99999", 1, head.length() + 4);
            Check.faulty(head + " 000000001;", 1, head.length() + 5);
        }
        for (String head : new String[] {"home ", "laugh ", "spite ", "dreamer d brave ", "meet ", "shun 1+"}) {
            Check.right(head + "1;", 1);
            Check.right(head + "01;", 1);
            Check.right(head + "001;", 1);
            Check.right(head + "0001;", 1);
        }
        int[] of = {1, 12, 123, 999};
        for (int n = 1; n <= 4; n++) {
            String number = "1234".substring(0, n);
            Check.due("meet " + number, Check.dreaming(ONE + "meet " + number + ";").weigh(0, 0, 2), of[n - 1]);
        }
        for (String head : new String[] {"", "dread ", "dread a ", "dreamer d ", "meet 1 ", "home 1;",
            "meet min ", "meet (2) "}) {
            Check.faulty(head + "1;", 1, head.length());
            Check.faulty(head + "123456;", 1, head.length());
        }
    }

    /** What byday makes of the DREAD's weight by this SUM is so much. */
    private static void makes(String sum, int want) {
        NightDoors x = Check.dreaming(ONE + "byday " + sum + ";");
        Check.due("byday " + sum, x.weigh(0, 0, 4), want);
    }

    // "/ gives the greatest whole number not above"
    private static void wholeNumberNotAbove() {
        makes("10+6/2", 13);
        makes("10+7/2", 13);
        makes("10+1/2", 10);
        makes("10+0/2", 10);
        makes("10+(0-6)/2", 7);
        makes("10+(0-7)/2", 6);
        makes("10+(0-1)/2", 9);
        makes("10+(0-1)/9999", 9);
        makes("10+7/(0-2)", 6);
        makes("10+6/(0-2)", 7);
        makes("10+1/(0-9999)", 9);
        makes("10+(0-7)/(0-2)", 13);
        makes("10+(0-1)/(0-2)", 10);
        makes("10+0/(0-2)", 10);
    }

    // "by 0 it gives 0"
    private static void byNothing() {
        makes("7+5/0", 7);
        makes("7+(0-5)/0", 7);
        makes("7+0/0", 7);
        makes("7+5/(3-3)", 7);
        makes("7+5/1", 12);
        makes("7+5/(0-1)", 2);
        makes("7+9999*9999/many", 7);
    }

    // "each sum .. above 10 to the 6 is that, below -10 to the 6 likewise"
    private static void sumsHeld() {
        makes("999*1000+998+1-9999*100", 99);
        makes("999*1000+999+1-9999*100", 100);
        makes("1000*1000+1-9999*100", 100);
        makes("1000*1000+1000*1000-9999*100", 100);
        makes("0-999*1000-998+(0-1)+9999*100+200", 101);
        makes("0-1000*1000+(0-0)+9999*100+200", 100);
        makes("(0-1000*1000)+(0-1)+9999*100+200", 100);
        makes("(0-1000*1000)+(0-1000*1000)+9999*100+200", 100);
    }

    // "each .. difference .. above 10 to the 6 is that, below -10 to the 6 likewise"
    private static void differencesHeld() {
        makes("999*1000+998-(0-1)-9999*100", 99);
        makes("999*1000+999-(0-1)-9999*100", 100);
        makes("1000*1000-(0-1)-9999*100", 100);
        makes("1000*1000-(0-1000*1000)-9999*100", 100);
        makes("0-999*1000-998-1+9999*100+200", 101);
        makes("0-999*1000-999-1+9999*100+200", 100);
        makes("0-1000*1000-1+9999*100+200", 100);
        makes("0-1000*1000-1000*1000+9999*100+200", 100);
    }

    // "each .. product above 10 to the 6 is that, below -10 to the 6 likewise"
    private static void productsHeld() {
        makes("999*1001-9999*100", 99);
        makes("1000*1000-9999*100", 100);
        makes("1000*1001-9999*100", 100);
        makes("(0-1000)*(0-1001)-9999*100", 100);
        makes("9999*9999*9999*9999-9999*100", 100);
        makes("(9999*9999)*(9999*9999)-9999*100", 100);
        makes("(0-9999*9999)*(0-9999*9999)-9999*100", 100);
        makes("(0-999)*1001+9999*100+200", 101);
        makes("(0-1000)*1000+9999*100+200", 100);
        makes("1001*(0-1000)+9999*100+200", 100);
        makes("(0-9999*9999)*(9999*9999)+9999*100+200", 100);
        makes("9999*9999/2001", 499);
    }

    // "All from the left on", PRODUCTS ahead of sums
    private static void fromTheLeftOn() {
        makes("20-3-4", 13);
        makes("20-(3-4)", 21);
        makes("100/7/2", 7);
        makes("100/(7/2)", 33);
        makes("7/2*2", 6);
        makes("7*2/4", 3);
        makes("2+3*4-6/2", 11);
        makes("1000*1000+1-1", 999);
        makes("1000*1000+1-1-9999*100", 99);
    }

    // "NAMES: 1 to 6 letters"; "a 7th letter of what is no OWN WORD at itself"
    private static void lettersOfNames() {
        String[] asked = {"dread ", "dreamer ", ONE + "guide ", ONE + "guide g of ", ONE + "fears ", ONE + "fears d "};
        for (String head : asked) {
            Check.faulty(head + ";", 1, head.length());
            Check.faulty(head + "abcdefg;", 1, head.length() + 6);
            Check.faulty(head + " abcdefgh;", 1, head.length() + 7);
            Check.faulty(head + "zzzzzzzzzzzzzzzzzzzzzzzz", 1, head.length() + 6);
        }
        for (int n = 1; n <= 6; n++) {
            String name = "zyxwvu".substring(0, n);
            Check.right("dread " + name + ";dreamer d brave 1;fears d " + name + " 5;guide g of " + name + ";", 4);
            Check.right("dreamer " + name + " brave 1;dread a;fears " + name + " a 5;guide g of a;", 4);
            NightDoors x = Check.dreaming("dread a;guide " + name + " of a;");
            for (int k = 0; k < 6; k++) {
                Check.due("letter " + k + " of " + name, x.letter(2, 0, k), k < n ? 26 - k : 0);
            }
        }
    }

    // "NAMES: .. no OWN WORD"; "where a NAME is asked, an OWN WORD so" (whole, at its first byte)
    private static void ownWords() {
        String[] asked = {"dread ", "dreamer ", ONE + "guide ", ONE + "guide g of ", ONE + "fears ", ONE + "fears d "};
        for (String word : OWN_WORDS) {
            for (String head : asked) {
                Check.faulty(head + word + ";", 1, head.length());
            }
        }
    }

    // What is no OWN WORD, but nearly: a letter more, or a letter less, or a word of a QUESTION
    private static void nearlyOwnWords() {
        for (String word : OWN_WORDS) {
            String less = word.substring(0, word.length() - 1);
            Check.right("dread " + less + ";", 1);
            if (word.length() < 6) {
                Check.right("dread " + word + "x;dread x" + word + ";", 2);
            } else {
                Check.faulty("dread " + word + "x;", 1, 12);
                Check.faulty("dread x" + word + ";", 1, 12);
            }
        }
        for (String word : "first last often total most least room all and or not".split(" ")) {
            Check.right("dread " + word + ";guide g of " + word + ";", 2);
        }
    }

    // "NAMES: .. unlike ones (of all sorts)"; "3 a NAME to be given that is there already .., at it"
    private static void unlikeNames() {
        String[] given = {"dread x;", "dreamer x brave 1;", "guide x of a;"};
        int[] at = {6, 8, 6};
        for (String first : given) {
            for (int i = 0; i < 3; i++) {
                Check.faulty("dread a;" + first + given[i], 3, 8 + first.length() + at[i]);
                Check.right("dread a;" + first + given[i].replace('x', 'y'), 3);
            }
        }
        Check.right("dread abcdef;dread abcdeg;dread bbcdef;dread abcde;dreamer a brave 1;dreamer ab brave 1;", 6);
        Check.faulty("dread abcdef;dread abcdef", 3, 19);
        Check.faulty(SIX + "dreamer f brave 1;", 3, 56);
        Check.faulty(FOUR + "dread j;", 3, 78);
        Check.faulty(SIX + GUIDES + "dreamer n brave 1;", 3, 108);
    }

    // "NAMES: .. told ahead of where they are asked"
    private static void namesToldAhead() {
        Check.right("dread a;guide g of a;", 2);
        Check.faulty("guide g of a;dread a;", 3, 11);
        Check.right("dreamer d brave 1;dread a;fears d a 1;", 3);
        Check.faulty("dread a;fears d a 1;dreamer d brave 1;", 3, 14);
        Check.faulty("dreamer d brave 1;fears d a 1;dread a;", 3, 26);
        Check.faulty("guide g of g;", 3, 11);
    }

    // "3 .. one that is none of what is asked, at it"
    private static void namesOfWhatIsAsked() {
        String all = "dread a;dreamer d brave 1;guide g of a;";
        Check.right(all + "fears d a 1;guide h of a;", 5);
        for (String name : new String[] {"a", "g", "x", "abcdef"}) {
            Check.faulty(all + "fears " + name + " a 1;", 3, 45);
        }
        for (String name : new String[] {"d", "g", "x", "aa"}) {
            Check.faulty(all + "fears d " + name + " 1;", 3, 47);
            Check.faulty(all + "guide h of " + name + ";", 3, 50);
        }
        Check.faulty(all + "guide h of h;", 3, 50);
    }

    // "Blanks (10, 32) are where one likes", and no other byte
    private static void blanks() {
        Check.right("\n dread \n a\n;  dreamer d\nbrave\n1 ; meet\n( weigh+ 2 )* min\n( 3 ,many )\n;\n", 3);
        for (int b = 0; b < 256; b++) {
            String sign = String.valueOf((char) b);
            boolean blank = b == 10 || b == 32;
            boolean digit = b >= '0' && b <= '9';
            String behind = "home 12" + sign + ";";
            if (blank || digit) {
                Check.right(behind, 1);
                Check.right("home " + sign + "1;", 1);
            } else {
                Check.faulty(behind, 1, b == ';' ? 8 : 7);
                Check.faulty("home " + sign + "1;", 1, 5);
            }
            if (blank) {
                Check.right(sign + "home 1;" + sign, 1);
                continue;
            }
            Check.faulty(sign + "home 1;", 1, 0);
            Check.faulty("home 1;" + sign, 1, 7);
            if (b == ';') {
                Check.right("home 1 " + sign, 1);
                Check.right("dread a" + sign, 1);
            } else {
                Check.faulty("home 1 " + sign, 1, 7);
                Check.faulty("dread a" + sign, 1, b >= 'a' && b <= 'z' ? 8 : 7);
            }
        }
    }

    // "(words and numbers side by side need one)"
    private static void sideBySide() {
        Check.faulty("dreada;", 1, 0);
        Check.faulty("dread1;", 1, 5);
        Check.faulty("dreamer dbrave 1;", 1, 15);
        Check.faulty("dreamer d brave1;", 1, 15);
        Check.faulty("home1;", 1, 4);
        Check.faulty("home12345;", 1, 4);
        Check.faulty("meet1;", 1, 4);
        Check.faulty("meet 1weigh;", 1, 6);
        Check.faulty("meet weigh1;", 1, 10);
        Check.faulty("meet weigh min(1,2);", 1, 11);
        Check.faulty(ONE + "fears d a1;", 1, 35);
        Check.faulty(ONE + "fears da 1;", 3, 32);
        Check.faulty(ONE + "guide gof a;", 1, 36);
        Check.faulty(ONE + "guide g ofa;", 1, 34);
        Check.right("meet(1)+weigh*min(1,2)-3/brave;home 1;home\n1;", 3);
        Check.right("meet 1+weigh*2;shun(weigh);byday(((1)));", 3);
    }

    private static final String[] TOKENS = ("dread a ; dreamer d brave 5 ; fears d a 7 ; guide g of a ; meet ( weigh + 2 ) *"
        + " min ( 3 , max ( many - worst , brave ) ) / sum ; shun number ; byday 0 ; home 9 ; laugh 3 ; spite 4 ;").split(" ");

    private static String upTo(int n) {
        StringBuilder s = new StringBuilder();
        for (int i = 0; i < n; i++) {
            s.append(TOKENS[i]).append(" ");
        }
        return s.toString();
    }

    // "1 the first byte with which no such text goes on (words .. whole, at their first byte ..)"
    private static void noSuchText() {
        for (int n = 0; n <= TOKENS.length; n++) {
            String head = upTo(n);
            boolean start = n == 0 || TOKENS[n - 1].equals(";");
            boolean given = n == 1 || n == 4 || n == 14;
            boolean known = n == 9 || n == 10 || n == 16;
            Check.faulty(head + "%", 1, head.length());
            Check.faulty(head + "\u00e9", 1, head.length());
            Check.faulty(head + "Z", 1, head.length());
            if (!given) {
                Check.faulty(head + "zz ;", known ? 3 : 1, head.length());
                Check.faulty(head + "weighs ;", known ? 3 : 1, head.length());
            }
            if (!given && !known) {
                Check.faulty(head + "abcdefgh ;", 1, head.length());
            }
            if (!start) {
                Check.faulty(head + "spite 1;", 1, head.length());
            }
            if (n < TOKENS.length && ";+)*,-/of".contains(TOKENS[n]) || start) {
                Check.faulty(head + "7", 1, head.length());
            }
        }
    }

    // "1 .. at the text's length, if it ends too soon"
    private static void textTooShort() {
        int statements = 0;
        for (int n = 0; n <= TOKENS.length; n++) {
            String head = upTo(n);
            String bare = head.trim();
            if (n == 0 || TOKENS[n - 1].equals(";")) {
                statements += n == 0 ? 0 : 1;
                Check.right(head, statements);
                Check.right(bare, statements);
            } else {
                Check.faulty(bare, 1, bare.length());
                Check.faulty(head, 1, head.length());
                Check.faulty(head + "\n\n", 1, head.length() + 2);
            }
        }
        // A word that ends too soon is another word.
        Check.faulty("drea", 1, 0);
        Check.faulty("home 1;laug", 1, 7);
        Check.faulty("dreamer d brav", 1, 10);
    }

    // "at the text's length": what stood on the tape behind it is not read.
    private static void textCutOff() {
        String text = "dread abc;home 1234;";
        int[] places = {-1, 0, 0, 0, 0, 5, 6, 7, 8, 9, -1, 10, 10, 10, 14, 15, 16, 17, 18, 19, -1};
        for (int n = 0; n <= text.length(); n++) {
            NightDoors x = new NightDoors();
            Check.tape(x, text);
            x.end(n);
            x.dream();
            Check.due("FAULT of " + n + " bytes", x.fault(0), places[n] < 0 ? 0 : 1);
            Check.due("its place", x.fault(1), places[n]);
        }
        NightDoors x = new NightDoors();
        Check.tape(x, "dread abcdefghij;");
        x.end(12);
        Check.due("six letters, cut off", x.dream(), -1);
        Check.due("its place", x.fault(1), 12);
        Check.tape(x, "home 1;;;;;;;;;;;;;;;;;;");
        x.end(6);
        Check.due("a ; cut off", x.dream(), -1);
        Check.due("its place", x.fault(1), 6);
    }

    // Where a text's words end is nothing to the next text.
    private static void oneTextBehindAnother() {
        NightDoors x = new NightDoors();
        for (int n = 0; n < 20; n++) {
            for (String before : new String[] {"home 1;", "meet weigh", "dread abc;", "home 12345", "?"}) {
                Check.tape(x, before);
                x.dream();
                Check.tape(x, " ".repeat(n) + "home 1;");
                Check.due(n + " blanks behind " + before, x.dream(), 1);
                Check.tape(x, before);
                x.dream();
                Check.tape(x, " ".repeat(n) + "home " + " ".repeat(n) + "7;");
                Check.due(n + " blanks behind " + before, x.dream(), 1);
                Check.due("home", x.has(3), 7);
            }
        }
    }

    // "4 the 7th ( that is open at once, at it"
    private static void openAtOnce() {
        for (int n = 1; n <= 6; n++) {
            Check.right("meet " + "(".repeat(n) + "1" + ")".repeat(n) + ";", 1);
            Check.right("meet " + "max(".repeat(n) + "1" + ",2)".repeat(n) + ";", 1);
        }
        Check.faulty("meet " + "(".repeat(7) + "1" + ")".repeat(7) + ";", 4, 11);
        Check.faulty("meet " + "( ".repeat(7), 4, 17);
        Check.faulty("meet " + "(".repeat(40), 4, 11);
        Check.faulty("shun " + "min(".repeat(7) + "1" + ",2)".repeat(7) + ";", 4, 32);
        Check.faulty("byday " + "min(1,".repeat(6) + "(2)" + ")".repeat(6) + ";", 4, 42);
        Check.right("byday " + "min(1,".repeat(6) + "2" + ")".repeat(6) + ";", 1);
        Check.faulty("meet ((((((max (1", 4, 15);
        Check.faulty("meet ((((((max", 1, 14);
        Check.faulty("meet ((((((1(", 1, 12);
        Check.faulty("meet ((((((1))))))(", 1, 18);
    }

    // What is closed again is not open any more.
    private static void openOneBehindAnother() {
        Check.right("meet (1)" + "+(1)".repeat(30) + ";", 1);
        Check.right("meet ((((((1))))))*((((((1))))))-min(1,2)+max(((((1)))),(((((2))))));shun((((((1))))));", 2);
        Check.right("meet (((((1)+(2))+(3))+(4))+(5))+(6);", 1);
        Check.faulty("meet ((((((1))))))+(((((((1", 4, 25);
        Check.faulty("meet (((((1)+((1", 1, 16);
        Check.faulty("meet (((((1)+(((1", 4, 15);
    }

    // "FAULTS, the first along the text"
    private static void firstAlongTheText() {
        String[] texts = {"home x;", "laugh 101;", "fears q q 1;", "meet (((((((1)))))));", "byday 1;byday 2;"};
        int[] kinds = {1, 2, 3, 4, 5};
        int[] places = {5, 6, 6, 11, 8};
        for (int i = 0; i < texts.length; i++) {
            for (int j = 0; j < texts.length; j++) {
                Check.faulty("spite 1;" + texts[i] + texts[j], kinds[i], 8 + places[i]);
            }
        }
        Check.faulty("laugh 101 laugh", 2, 6);
        Check.faulty("dread a;dread a laugh", 3, 14);
        Check.faulty("dread a;dread abcdefg", 1, 20);
        Check.faulty("dread abcdefg;dread abcdefg", 1, 12);
        Check.faulty("dreamer a brave 10;dreamer a brave 1;", 2, 16);
        Check.faulty("dreamer a brave 1;dreamer a brave 10;", 3, 26);
    }

    // "Of the latest dream() or ask(): its FAULT (what 0; 0 without, and ahead of any), its place (1; NONE without). NONE .."
    private static void faultOf() {
        NightDoors x = new NightDoors();
        int[][] steps = {{0, -1}, {1, 5}, {0, -1}, {2, 6}, {2, 6}, {1, 6}, {0, -1}};
        for (int i = 0; i < steps.length; i++) {
            switch (i) {
                case 1: Check.tape(x, "home ?"); x.dream(); break;
                case 2: Check.tape(x, ONE + "fears d a 3;"); x.dream(); break;
                case 3: Check.tape(x, "laugh 101;"); x.dream(); break;
                case 4: Check.told(x, 9, 1); x.on(); Check.ask(x, 1, "total ?"); x.meet(9, true); break;
                case 5: Check.ask(x, 0, "total ?"); break;
                case 6: Check.ask(x, 0, "total 1"); break;
                default: break;
            }
            Check.due("step " + i + ": fault(0)", x.fault(0), steps[i][0]);
            Check.due("step " + i + ": fault(1)", x.fault(1), steps[i][1]);
            for (int what : new int[] {-1, 2, 3, Integer.MIN_VALUE, Integer.MAX_VALUE}) {
                Check.due("step " + i + ": fault(" + what + ")", x.fault(what), -1);
            }
        }
    }

    // A text as long as the tape, 1600 bytes
    private static void longestText() {
        String head = ONE + "fears d a 9;meet 1";
        String text = head + "+1".repeat((1600 - head.length() - 1) / 2) + ";";
        text = " ".repeat(1600 - text.length()) + text;
        Check.due("its length", text.length(), 1600);
        Check.right(text, 4);
        Check.faulty(text.substring(0, 1599) + "+", 1, 1600);
        Check.faulty(text.substring(0, 1599) + "%", 1, 1599);
        Check.right(" ".repeat(1600), 0);
    }
}
