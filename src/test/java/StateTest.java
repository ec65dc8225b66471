/** Promises 6 (has), 7 (letter), 8 (dreamer), 9 (weigh), 10 (guide). */
public final class StateTest {
    private static final String DREAM = "dread dog;dread cat;dread owlets;dreamer ann brave 4;dreamer bo brave 0;"
        + "guide gus of cat;guide hal of owlets;fears ann dog 9;fears ann cat 5;fears ann owlets 9;"
        + "meet weigh-brave;shun weigh+worst;byday number*100+sum;home 22;laugh 7;spite 8;";

    public static void main(String[] args) {
        has();
        letter();
        dreamer();
        weigh();
        guide();
        fewDreads();
        Check.end();
    }

    private static void has() {
        NightDoors x = Check.dreaming(DREAM);
        int[] due = {3, 2, 2, 22, 7, 8, 1, 0};
        for (int i = 0; i < due.length; i++) {
            Check.due("has(" + i + ")", x.has(i), due[i]);
        }
        Check.due("has(8)", x.has(8), -1);
        Check.due("has(-1)", x.has(-1), -1);
        x.set(0, 0, 8);
        Check.due("has(6), just HOME", x.has(6), 2);
        Check.due("has(7)", x.has(7), 1);
        x.set(0, 0, 9);
        Check.due("has(6), not any more", x.has(6), 1);
    }

    private static void letter() {
        NightDoors x = Check.dreaming(DREAM);
        Check.due("letter(0, 0, 0)", x.letter(0, 0, 0), 4);
        Check.due("letter(0, 0, 2)", x.letter(0, 0, 2), 7);
        Check.due("letter(0, 0, 3)", x.letter(0, 0, 3), 0);
        Check.due("letter(0, 0, 5)", x.letter(0, 0, 5), 0);
        Check.due("letter(0, 0, 6)", x.letter(0, 0, 6), -1);
        Check.due("letter(0, 0, -1)", x.letter(0, 0, -1), -1);
        Check.due("letter(0, 2, 5)", x.letter(0, 2, 5), 19);
        Check.due("letter(0, 3, 0)", x.letter(0, 3, 0), -1);
        Check.due("letter(1, 0, 0)", x.letter(1, 0, 0), 1);
        Check.due("letter(1, 1, 1)", x.letter(1, 1, 1), 15);
        Check.due("letter(1, 2, 0)", x.letter(1, 2, 0), -1);
        Check.due("letter(2, 1, 2)", x.letter(2, 1, 2), 12);
        Check.due("letter(2, 2, 2)", x.letter(2, 2, 2), -1);
        Check.due("letter(2, -1, 2)", x.letter(2, -1, 2), -1);
        Check.due("letter(3, 0, 0)", x.letter(3, 0, 0), -1);
        Check.due("letter(-1, 0, 0)", x.letter(-1, 0, 0), -1);
        NightDoors z = Check.dreaming("dread az;");
        Check.due("letter a", z.letter(0, 0, 0), 1);
        Check.due("letter z", z.letter(0, 0, 1), 26);
    }

    private static void dreamer() {
        NightDoors x = Check.dreaming(DREAM);
        int[] ann = {4, -1, 23, 9, 3, 0, 2, 0, -1};
        int[] bo = {0, -1, 0, 0, 0, 0, 1, 1, -1};
        int[] led = {4, 0, 23, 9, 3, 1, 0, 0, -1};
        int[] other = {4, 1, 23, 9, 3, 2, 0, 0, -1};
        row(x, "alone", 0, ann);
        row(x, "bo", 1, bo);
        Check.due("dreamer(0, -1)", x.dreamer(0, -1), -1);
        Check.due("dreamer(2, 0)", x.dreamer(2, 0), -1);
        Check.due("dreamer(-1, 0)", x.dreamer(-1, 0), -1);
        x.take(0, 0);
        row(x, "with gus, of cat", 0, led);
        row(x, "bo, still alone", 1, bo);
        x.take(0, 1);
        row(x, "with hal, of owlets", 0, other);
    }

    private static void row(NightDoors x, String how, int dreamer, int[] due) {
        for (int i = 0; i < due.length; i++) {
            Check.due("dreamer(" + dreamer + ", " + i + ") " + how, x.dreamer(dreamer, i), due[i]);
        }
    }

    private static void weigh() {
        NightDoors x = Check.dreaming(DREAM);
        int[] dog = {9, 9, 5, 18, 23, -1};
        int[] owl = {9, 9, 5, 18, 223, -1};
        for (int i = 0; i < dog.length; i++) {
            Check.due("weigh(0, 0, " + i + ")", x.weigh(0, 0, i), dog[i]);
            Check.due("weigh(0, 2, " + i + ")", x.weigh(0, 2, i), owl[i]);
        }
        Check.due("weigh(0, 0, -1)", x.weigh(0, 0, -1), -1);
        Check.due("weigh(0, 3, 0)", x.weigh(0, 3, 0), -1);
        Check.due("weigh(0, -1, 0)", x.weigh(0, -1, 0), -1);
        Check.due("weigh(2, 0, 0)", x.weigh(2, 0, 0), -1);
        Check.due("weigh(-1, 0, 0)", x.weigh(-1, 0, 0), -1);
        x.take(0, 0);
        Check.due("dog COUNTS half", x.weigh(0, 0, 1), 4);
        Check.due("cat COUNTS twice", x.weigh(0, 1, 1), 10);
        Check.due("cat weighs as it is", x.weigh(0, 1, 0), 5);
        Check.due("meet of cat, by weights", x.weigh(0, 1, 2), 1);
        Check.due("shun of cat, by the greatest weight", x.weigh(0, 1, 3), 14);
        x.set(0, 1, 3);
        Check.due("meet, below 0 is 0", x.weigh(0, 1, 2), 0);
        x.set(0, 0, 999);
        Check.due("shun, above 999 is 999", x.weigh(0, 0, 3), 999);
        Check.due("byday, above 999 is 999", x.weigh(0, 0, 4), 999);
        Check.due("bo's, who is HOME", x.weigh(1, 2, 4), 200);
        NightDoors y = Check.dreaming("dread a;dreamer d brave 1;fears d a 6;");
        for (int i = 0; i < 5; i++) {
            Check.due("without a SUM: weigh(0, 0, " + i + ")", y.weigh(0, 0, i), 6);
        }
    }

    private static void guide() {
        NightDoors x = Check.dreaming(DREAM);
        Check.due("guide(0)", x.guide(0), 1);
        Check.due("guide(1)", x.guide(1), 2);
        Check.due("guide(2)", x.guide(2), -1);
        Check.due("guide(-1)", x.guide(-1), -1);
    }

    private static void fewDreads() {
        NightDoors x = Check.dreaming("dreamer d brave 7;");
        row(x, "without DREADS", 0, new int[] {7, -1, 0, 0, 0, -1, -1, 1, -1});
        NightDoors y = Check.dreaming("dread a;dreamer d brave 7;fears d a 1;");
        row(y, "with one DREAD", 0, new int[] {7, -1, 1, 1, 1, 0, -1, 0, -1});
    }
}
