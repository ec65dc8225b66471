/** The example of README.md: a DREAM is told, asked about, acted in. */
final class ReadmeExample {
    private ReadmeExample() {
    }

    /** Puts a text on an empty tape: twenty bytes a call, then the tape is cut to the text's length. */
    static void write(NightDoors x, String text) {
        int[] n = new int[5];
        for (int i = 0; i < text.length(); i += 20) {
            for (int k = 0; k < 20; k++) {
                n[k / 4] = n[k / 4] << 8 | (i + k < text.length() ? text.charAt(i + k) : ' ');
            }
            x.feed(n[0], n[1], n[2], n[3], n[4]);
        }
        x.end(text.length());
    }

    public static void main(String[] args) {
        NightDoors x = new NightDoors();
        write(x, "dread dog; dread dark; dreamer ann brave 3; fears ann dog 50; fears ann dark 30;"
            + " guide gus of dark; meet weigh / 2 - brave; shun weigh + 10; byday weigh - 20;"
            + " home 40; laugh 50; spite 2;");
        System.out.println(x.dream()); // 12
        System.out.println(x.dreamer(0, 5)); // 0
        System.out.println(x.weigh(0, 0, 2)); // 22
        System.out.println(x.till(0)); // 2
        System.out.println(x.room(0, 1)); // 1
        System.out.println(x.soonest(0, NightDoors.NONE)); // 2
        System.out.println(x.take(0, 0)); // true
        System.out.println(x.meet(0, false)); // 1
        System.out.println(x.weigh(0, 1, 0)); // 12
        System.out.println(x.meet(0, false)); // 0
        System.out.println(x.dreamer(0, 7)); // 1
        System.out.println(x.meet(0, false)); // -1
        System.out.println(x.status(2)); // 1
        System.out.println(x.undo()); // true
        write(x, "total weigh dread");
        System.out.println(x.ask(0)); // 50
        write(x, "total weight");
        System.out.println(x.ask(0)); // -1000000000000000
        System.out.println(x.fault(0)); // 1
        System.out.println(x.fault(1)); // 6
    }
}
