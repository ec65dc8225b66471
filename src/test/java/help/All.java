/** All that an object tells of how it is, as one text: alike ahead of a call and behind it when nothing has changed. */
final class All {
    private All() {
    }

    /** What was refused is aside: that is what status() counts. */
    static String of(NightDoors x) {
        StringBuilder s = new StringBuilder();
        for (int what = 0; what < 8; what++) {
            s.append(" has ").append(x.has(what));
        }
        for (int kind = 0; kind < 3; kind++) {
            for (int which = 0; which < x.has(kind); which++) {
                s.append(" letter ").append(x.letter(kind, which, 0)).append(' ').append(x.letter(kind, which, 1));
            }
        }
        for (int i = 0; i < x.has(1); i++) {
            for (int what = 0; what < 8; what++) {
                s.append(" dreamer ").append(x.dreamer(i, what));
            }
            for (int j = 0; j < x.has(0); j++) {
                for (int what = 0; what < 5; what++) {
                    s.append(" weigh ").append(x.weigh(i, j, what));
                }
            }
        }
        for (int g = 0; g < x.has(2); g++) {
            s.append(" guide ").append(x.guide(g));
        }
        for (int j = 0; j < x.has(0); j++) {
            s.append(" fits ").append(x.fits(j, 0)).append(' ').append(x.fits(j, 1));
        }
        for (int k = 0; k < 16; k++) {
            s.append(" octet ").append(x.octet(k));
        }
        return s.append(" fault ").append(x.fault(0)).append(' ').append(x.fault(1)).toString();
    }
}
