/** Promise 31 (ask), and fault() behind it. */
public final class AskTest {
    // ROOMS with a, b, a; ahead of them 30 20 5, 15 20 5, 15 10 5
    private static final String DREAM = "dread a;dread b;dread c;dreamer d brave 1;dreamer e brave 1;fears d a 30;"
        + "fears d b 20;fears d c 5;meet weigh/2;home 22;";

    public static void main(String[] args) {
        answers();
        tests();
        withoutRooms();
        faults();
        brackets();
        nobody();
        Check.end();
    }

    private static void answer(String question, long want) {
        NightDoors x = Check.dreaming(DREAM);
        Check.due(question, Check.ask(x, 0, question), want);
        Check.due("fault(0) of " + question, x.fault(0), 0);
        Check.due("fault(1) of " + question, x.fault(1), -1);
        Check.due("the tape goes: " + question, x.end(1), false);
    }

    private static void answers() {
        answer("first all", 0);
        answer("last all", 2);
        answer("often all", 3);
        answer("first dread=1", 1);
        answer("last dread=0", 2);
        answer("often dread=0", 2);
        answer("first dread=2", -1);
        answer("last dread=2", -1);
        answer("often dread=2", 0);
        answer("total sum", 125);
        answer("most worst", 30);
        answer("least worst", 15);
        answer("total room", 3);
        answer("most room", 2);
        answer("least room", 0);
        answer("least many", 3);
        answer("total dread", 1);
        answer("total weigh 0", 60);
        answer("total weigh dread", 65);
        answer("total weigh room", 30 + 20 + 5);
        answer("total weigh(room+1)", 20 + 5);
        answer("total weigh 3", 0);
        answer("total weigh 9999", 0);
        answer("total weigh(0-1)", 0);
        answer("total weigh weigh 2", 0);
        answer("total weigh (weigh 2-4)", 20 + 20 + 10);
        answer("total weigh 0*2", 120);
        answer("total 9999*9999", 3000000);
        answer("total 0-9999*9999", -3000000);
        answer("least 0-9999*9999", -1000000);
        answer("most 0-room-1", -1);
        answer("least (0-room-1)/2", -2);
        answer("most 7/(room-1)", 7);
        answer("least 7/(room-1)", -7);
        answer("total max(room,1)*10+min(room,1)", 42);
        answer("\n first\n\n all \n", 0);
        answer("first weigh(room)=5", 2);
    }

    private static void tests() {
        answer("often room<1", 1);
        answer("often room>1", 1);
        answer("often room=1", 1);
        answer("often 1+1=2", 3);
        answer("often all or all and room=9", 3);
        answer("often room=9 and all or all", 3);
        answer("often [all or all] and room=9", 0);
        answer("often not room=1 and room=1", 0);
        answer("often not [room=1 and dread=1]", 2);
        answer("often not not room=1", 1);
        answer("often not all", 0);
        answer("often not[all]or[room=0]", 1);
        answer("first room=2 or room=1", 1);
        answer("last room=0 or room=1", 1);
        answer("often room=0 or room=1 or room=0", 2);
        answer("first sum<40 and worst>14 and many=3", 2);
        answer("first sum<41", 1);
    }

    private static void withoutRooms() {
        NightDoors x = Check.dreaming(DREAM);
        Check.due("first", Check.ask(x, 1, "first all"), -1);
        Check.due("last", Check.ask(x, 1, "last all"), -1);
        Check.due("often", Check.ask(x, 1, "often all"), 0);
        Check.due("total", Check.ask(x, 1, "total 5"), 0);
        Check.due("most", Check.ask(x, 1, "most 0-5"), 0);
        Check.due("least", Check.ask(x, 1, "least 5"), 0);
        NightDoors y = Check.dreaming("dread a;dreamer d brave 1;fears d a 5;");
        Check.due("200 ROOMS", Check.ask(y, 0, "often all"), 200);
        Check.due("200 ROOMS", Check.ask(y, 0, "total 9999*9999"), 200000000);
        Check.due("the last one", Check.ask(y, 0, "last all"), 199);
    }

    private static void faulty(String question, int kind, int place) {
        NightDoors x = Check.dreaming(DREAM);
        Check.due("\"" + question + "\"", Check.ask(x, 0, question), NightDoors.NOTHING);
        Check.due("fault(0) of \"" + question + "\"", x.fault(0), kind);
        Check.due("fault(1) of \"" + question + "\"", x.fault(1), place);
        Check.due("the tape goes: " + question, x.end(1), false);
        Check.due("nothing is refused", x.status(1), 0);
    }

    private static void faults() {
        faulty("", 1, 0);
        faulty("  ", 1, 2);
        faulty("foo all", 1, 0);
        faulty("firstall", 1, 0);
        faulty("First all", 1, 0);
        faulty("5", 1, 0);
        faulty("all", 1, 0);
        faulty("first", 1, 5);
        faulty("first foo", 1, 6);
        faulty("first all all", 1, 10);
        faulty("first all;", 1, 9);
        faulty("first all]", 1, 9);
        faulty("first [all", 1, 10);
        faulty("first [all)", 1, 10);
        faulty("first 1", 1, 7);
        faulty("first 1+", 1, 8);
        faulty("first 1<2<3", 1, 9);
        faulty("first 1<=2", 1, 8);
        faulty("first 1 2", 1, 8);
        faulty("first room=3and all", 1, 12);
        faulty("first room=3 and", 1, 16);
        faulty("first room=3 or or", 1, 16);
        faulty("first room=room3", 1, 15);
        faulty("first1<2", 1, 5);
        faulty("first not", 1, 9);
        faulty("first notall", 1, 6);
        faulty("first (all)", 1, 7);
        faulty("first [1]", 1, 8);
        faulty("first (1<2)", 1, 8);
        faulty("first []", 1, 7);
        faulty("total", 1, 5);
        faulty("total all", 1, 6);
        faulty("total 1=1", 1, 7);
        faulty("total weigh", 1, 11);
        faulty("total weigh1", 1, 11);
        faulty("total weigh+1", 1, 11);
        faulty("total brave", 1, 6);
        faulty("total number", 1, 6);
        faulty("total a", 1, 6);
        faulty("total 10000", 1, 10);
        faulty("total -1", 1, 6);
        faulty("total 1;", 1, 7);
        faulty("total [1]", 1, 6);
        faulty("total min(1)", 1, 11);
        faulty("total min 1", 1, 10);
        faulty("total sum total", 1, 10);
        faulty("most 1\t", 1, 6);
        faulty("most \u00e9", 1, 5);
    }

    private static void brackets() {
        answer("often not not not not not not all", 3);
        faulty("often not not not not not not not all", 4, 30);
        answer("often [[[[[[all]]]]]]", 3);
        faulty("often [[[[[[[all]]]]]]]", 4, 12);
        answer("total ((((((1))))))", 3);
        faulty("total (((((((1)))))))", 4, 12);
        answer("total weigh weigh weigh weigh weigh weigh 9", 60);
        faulty("total weigh weigh weigh weigh weigh weigh weigh 9", 4, 42);
        answer("total weigh(((((2)))))", 15);
        faulty("total weigh((((((2))))))", 4, 16);
        faulty("total min(min(min(min(min(min(min(1", 4, 33);
        faulty("often not [not [(weigh (", 4, 23);
        answer("often not [not [(weigh 2)=5]]", 3);
        answer("often not [not [(weigh 2)=5 and weigh weigh 2=0]]", 3);
        faulty("often not [not [(weigh weigh weigh", 4, 23);
        // not is open until its FACT ends, weigh until its PART ends
        faulty("often not not not not not not 1<(2)", 4, 32);
        answer("often not all or [[[[[[all]]]]]]", 3);
        answer("often not not not 1=1 or [[[[[[all]]]]]]", 3);
        answer("total weigh weigh weigh weigh weigh weigh 9+((((((1))))))", 63);
        faulty("total weigh weigh weigh weigh weigh weigh (", 4, 42);
        answer("often [[[[[[all]]]]]] and ((((((1))))))=1", 3);
    }

    private static void nobody() {
        NightDoors x = Check.dreaming(DREAM);
        Check.due("a FAULT", Check.ask(x, 0, "total foo"), NightDoors.NOTHING);
        for (int d : new int[] {-1, 2, 4, Integer.MAX_VALUE, Integer.MIN_VALUE}) {
            Check.due("nobody", Check.ask(x, d, "total 1"), NightDoors.NOTHING);
            Check.due("the tape goes", x.end(1), false);
            Check.due("fault(0) stays", x.fault(0), 1);
            Check.due("fault(1) stays", x.fault(1), 6);
        }
        Check.due("right again", Check.ask(x, 0, "total 1"), 3);
        Check.due("fault(0)", x.fault(0), 0);
        Check.due("fault(1)", x.fault(1), -1);
        Check.due("nobody, a text with a FAULT", Check.ask(x, 5, "total foo"), NightDoors.NOTHING);
        Check.due("fault(0) stays", x.fault(0), 0);
    }
}
