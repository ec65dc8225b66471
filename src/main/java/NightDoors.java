/** A corridor by what one dreads: see ../shared/DOC.md, whose words in capitals are used here. */
public final class NightDoors {
    public static final int NONE = -1;
    public static final long NOTHING = -1000000000000000L;

    private static final int DREADS = 6;
    private static final int DREAMERS = 4;
    private static final int GUIDES = 4;
    private static final int STATEMENTS = 70;
    private static final int NAMES = 14;
    private static final int LETTERS = 6;
    private static final int DIGITS = 4;
    private static final int GREATEST_NUMBER = 9999;
    private static final int OPEN = 6;
    private static final int TAPE = 1600;
    private static final int FED = 20;
    private static final int HEAVIEST = 999;
    private static final int HELD = 1000000;
    private static final int ROOMS = 200;
    private static final int WAY = 10;
    private static final int MET_BY_DAY = 4;
    private static final int ORDERS = 24;
    private static final int ROOMS_AGAINST = 3;
    private static final int ROOMS_OF_CHANCE = 4;
    private static final int ROOMS_OF_NIGHT = 100;
    private static final int UNDONE = 20;
    private static final int TOLD = 20;
    private static final int PICTURE = 53;
    private static final int LEAST_DREAD_ROOMS = 20;
    private static final int REFUSED = 6;

    // Seven levels of brackets, in each of which six values wait at most: this is never full.
    private static final int WAITING = 64;

    // The sorts of NAMES, as letter() numbers them, and where the first of each stands among all.
    private static final int DREAD = 0;
    private static final int DREAMER = 1;
    private static final int GUIDE = 2;
    private static final int SORTS = 3;
    private static final int[] FIRST_NAME = {0, 6, 10, NAMES};

    // The SUMs of a DREAM.
    private static final int MEET = 0;
    private static final int SHUN = 1;
    private static final int BYDAY = 2;
    private static final int SUMS = 3;

    // The steps of a SUM or a TEST: a number from 0 on stands for itself, one below is done.
    private static final int PLUS = -1;
    private static final int MINUS = -2;
    private static final int TIMES = -3;
    private static final int OVER = -4;
    private static final int MIN = -5;
    private static final int MAX = -6;
    private static final int LESS = -7;
    private static final int MORE = -8;
    private static final int LIKE = -9;
    private static final int AND = -10;
    private static final int OR = -11;
    private static final int NOT = -12;
    private static final int WEIGHT_OF = -13;

    // What can be asked is the step FACTS less one of these; NUMBER is a QUESTION's dread, too.
    private static final int FACTS = -20;
    private static final int WEIGH = 0;
    private static final int WORST = 1;
    private static final int SUM = 2;
    private static final int MANY = 3;
    private static final int NUMBER = 4;
    private static final int BRAVE = 5;
    private static final int ROOM = 6;
    private static final int KNOWN = 7;

    private static final String OWN_WORDS =
        "dread dreamer brave fears guide of meet shun byday home laugh spite weigh worst sum many number min max";
    private static final String OPENERS = "dread dreamer fears guide meet shun byday home laugh spite";
    private static final String DREAM_PARTS = "weigh worst sum many number brave min max";
    private static final String QUESTION_PARTS = "room dread worst sum many weigh min max";
    private static final String HEADS = "first last often total most least";

    // What the words of DREAM_PARTS and QUESTION_PARTS stand for, one by one.
    private static final int[] DREAM_STEPS =
        {FACTS - WEIGH, FACTS - WORST, FACTS - SUM, FACTS - MANY, FACTS - NUMBER, FACTS - BRAVE, MIN, MAX};
    private static final int[] QUESTION_STEPS =
        {FACTS - ROOM, FACTS - NUMBER, FACTS - WORST, FACTS - SUM, FACTS - MANY, WEIGHT_OF, MIN, MAX};

    private final Text tape = new Text();
    private final SumReader sums = new SumReader(tape);
    private final DreamReader reader = new DreamReader(tape, sums);
    private final Question question = new Question(tape, sums);
    private Dream current = new Dream();
    private Dream spare = new Dream();
    private final Sleeper[] sleepers = newSleepers(DREAMERS);
    private final Acts acts = new Acts();
    private final Ahead future = new Ahead();
    private final Ways ways = new Ways();
    private final Fates fates = new Fates();
    private final int[] toldRow = new int[TOLD];
    private int toldRooms = 0;
    private int toldOf = NONE;
    private final int[] picture = new int[PICTURE];
    private int pictureSize = 0;
    private final int[] refusals = new int[REFUSED];
    private int lot = 1;

    public NightDoors() {
    }

    public int feed(int a, int b, int c, int d, int e) {
        if (tape.size + FED > TAPE) {
            return refuse(0);
        }
        tape.add(a);
        tape.add(b);
        tape.add(c);
        tape.add(d);
        tape.add(e);
        return tape.size;
    }

    public boolean end(int n) {
        if (n < 0 || n > tape.size) {
            refuse(0);
            return false;
        }
        tape.size = n;
        return true;
    }

    public int dream() {
        int statements = reader.read(spare);
        tape.wipe();
        if (statements == NONE) {
            return refuse(1);
        }
        Dream old = current;
        current = spare;
        spare = old;
        for (int i = 0; i < sleepers.length; i++) {
            current.lay(sleepers[i], i);
        }
        acts.forget();
        toldOf = NONE;
        return statements;
    }

    public int fault(int what) {
        if (what == 0) {
            return tape.fault;
        }
        return what == 1 ? tape.place : NONE;
    }

    public int has(int what) {
        switch (what) {
            case 0: return current.count(DREAD);
            case 1: return current.count(DREAMER);
            case 2: return current.count(GUIDE);
            case 3: return current.home;
            case 4: return current.laugh;
            case 5: return current.spite;
            case 6: return countHome();
            case 7: return acts.count;
            default: return NONE;
        }
    }

    public int letter(int kind, int which, int k) {
        if (!current.isThere(kind, which) || k < 0 || k >= LETTERS) {
            return NONE;
        }
        return current.letterAt(current.placeOf(kind, which), k);
    }

    public int dreamer(int dreamer, int what) {
        if (!isDreamer(dreamer)) {
            return NONE;
        }
        Sleeper s = sleepers[dreamer];
        switch (what) {
            case 0: return current.braveryOf(dreamer);
            case 1: return s.guide;
            case 2: return s.total();
            case 3: return s.greatest();
            case 4: return s.countHeavy();
            case 5: return current.heaviest(s, NONE);
            case 6: return current.heaviest(s, current.heaviest(s, NONE));
            case 7: return current.isHome(s) ? 1 : 0;
            default: return NONE;
        }
    }

    public int weigh(int dreamer, int dread, int what) {
        if (!isDreamer(dreamer) || !isDread(dread)) {
            return NONE;
        }
        Sleeper s = sleepers[dreamer];
        switch (what) {
            case 0: return s.at(dread);
            case 1: return current.counts(s, dread);
            case 2: return current.becomes(s, dread, MEET);
            case 3: return current.becomes(s, dread, SHUN);
            case 4: return current.becomes(s, dread, BYDAY);
            default: return NONE;
        }
    }

    public int guide(int guide) {
        return current.isThere(GUIDE, guide) ? current.dreadOf(guide) : NONE;
    }

    public int room(int dreamer, int k) {
        if (!isDreamer(dreamer)) {
            return NONE;
        }
        future.go(current, sleepers[dreamer]);
        return future.dreadIn(k);
    }

    public int later(int dreamer, int dread, int k) {
        if (!isDreamer(dreamer) || !isDread(dread) || k < 0 || k > ROOMS) {
            return NONE;
        }
        future.go(current, sleepers[dreamer]);
        return future.weightAt(Math.min(k, future.count), dread);
    }

    public int till(int dreamer) {
        if (!isDreamer(dreamer)) {
            return NONE;
        }
        future.go(current, sleepers[dreamer]);
        return future.isHome ? future.count : NONE;
    }

    public int again(int dreamer, int what) {
        if (!isDreamer(dreamer) || what < 0 || what > 1) {
            return NONE;
        }
        future.go(current, sleepers[dreamer]);
        // The weights behind the last ROOM are ahead of no ROOM, and count for nothing here.
        for (int k = 1; k < future.count; k++) {
            int since = k - future.firstLike(k);
            if (since > 0) {
                return what == 0 ? k : since;
            }
        }
        return NONE;
    }

    public int soonest(int dreamer, int k) {
        if (!isDreamer(dreamer)) {
            return NONE;
        }
        int rooms = ways.findSoonest(current, sleepers[dreamer], WAY + 1);
        return k == NONE ? rooms : ways.turn(k, rooms);
    }

    public int least(int dreamer, int k) {
        if (!isDreamer(dreamer)) {
            return NONE;
        }
        int rooms = ways.findLeast(current, sleepers[dreamer]);
        if (rooms == NONE) {
            return NONE;
        }
        if (k == NONE) {
            return ways.bestDread;
        }
        return k == LEAST_DREAD_ROOMS ? rooms : ways.turn(k, rooms);
    }

    public int along(int dreamer, int what) {
        if (!isDreamer(dreamer) || what < 0 || what > 1) {
            return NONE;
        }
        int rooms = ways.findGuide(current, sleepers[dreamer]);
        return what == 1 || rooms == NONE ? rooms : ways.bestGuide + 1;
    }

    public int days(int dreamer, int set, int k) {
        if (!isDreamer(dreamer) || set < 0 || set >= 1 << current.count(DREAD)
            || Integer.bitCount(set) > MET_BY_DAY) {
            return NONE;
        }
        int rooms = ways.findDays(current, sleepers[dreamer], set);
        if (k == NONE || rooms == NONE) {
            return rooms;
        }
        return k >= 0 && k < Integer.bitCount(set) ? ways.metByDay(k) : NONE;
    }

    public int hand(int first, int second, int k) {
        if (!isDreamer(first) || !isDreamer(second) || first == second) {
            return NONE;
        }
        int rooms = future.goTogether(current, sleepers[first], sleepers[second]);
        if (k == NONE || rooms == NONE) {
            return rooms;
        }
        return future.dreadIn(k);
    }

    public int against(int dreamer, int n) {
        if (!isDreamer(dreamer) || n < 0 || n > ROOMS_AGAINST) {
            return NONE;
        }
        return fates.canBeHome(current, sleepers[dreamer], n) ? 1 : 0;
    }

    public int chance(int dreamer, int n) {
        if (!isDreamer(dreamer) || n < 0 || n > ROOMS_OF_CHANCE) {
            return NONE;
        }
        return fates.thousandths(current, sleepers[dreamer], n);
    }

    public int meet(int dreamer, boolean round) {
        if (!isDreamer(dreamer) || !current.canEnter(sleepers[dreamer], round)) {
            return refuse(2);
        }
        acts.keep(sleepers[dreamer]);
        return current.enter(sleepers[dreamer], round);
    }

    public int day(int dreamer, int dread) {
        if (!isDreamer(dreamer) || !isDread(dread)) {
            return refuse(2);
        }
        acts.keep(sleepers[dreamer]);
        current.meetByDay(sleepers[dreamer], dread);
        return sleepers[dreamer].at(dread);
    }

    public boolean take(int dreamer, int guide) {
        if (!isDreamer(dreamer) || guide != NONE && !current.isThere(GUIDE, guide)
            || sleepers[dreamer].guide == guide) {
            refuse(2);
            return false;
        }
        acts.keep(sleepers[dreamer]);
        sleepers[dreamer].guide = guide;
        return true;
    }

    public int set(int dreamer, int dread, int n) {
        if (!isDreamer(dreamer) || !isDread(dread) || n < 0 || n > HEAVIEST) {
            return refuse(2);
        }
        int old = sleepers[dreamer].at(dread);
        acts.keep(sleepers[dreamer]);
        sleepers[dreamer].put(dread, n);
        return old;
    }

    public int night(int dreamer, int n) {
        if (!isDreamer(dreamer) || n < 1 || n > ROOMS_OF_NIGHT) {
            return refuse(2);
        }
        Sleeper s = sleepers[dreamer];
        acts.keep(s);
        int rooms = 0;
        while (rooms < n && current.canEnter(s, false)) {
            boolean round = draw(2) == 1 && current.count(DREAD) > 1;
            current.enter(s, round);
            if (draw(100) < current.laugh) {
                s.laugh();
            }
            rooms++;
        }
        return rooms;
    }

    public boolean undo() {
        if (acts.count == 0) {
            refuse(3);
            return false;
        }
        acts.takeBack(sleepers);
        return true;
    }

    public boolean seed(int seed) {
        if (seed < 0) {
            refuse(4);
            return false;
        }
        lot = seed;
        return true;
    }

    public int told(int dreamer) {
        int rooms = tape.size;
        boolean right = isDreamer(dreamer) && rooms >= 1 && rooms <= TOLD;
        for (int i = 0; i < rooms && right; i++) {
            right = isDread(tape.byteAt(i));
        }
        for (int i = 0; i < rooms && i < TOLD && right; i++) {
            toldRow[i] = tape.byteAt(i);
        }
        tape.wipe();
        if (!right) {
            return refuse(1);
        }
        toldOf = dreamer;
        toldRooms = rooms;
        return rooms;
    }

    public int fits(int dread, int what) {
        if (!isDreamer(toldOf) || !isDread(dread) || what < 0 || what > 2) {
            return NONE;
        }
        int many = 0;
        int lightest = NONE;
        int heaviest = NONE;
        for (int n = 0; n <= HEAVIEST; n++) {
            if (future.follows(current, sleepers[toldOf], dread, n, toldRow, toldRooms)) {
                many++;
                lightest = lightest == NONE ? n : lightest;
                heaviest = n;
            }
        }
        if (what == 0) {
            return many;
        }
        return what == 1 ? lightest : heaviest;
    }

    public long ask(int dreamer) {
        if (!isDreamer(dreamer)) {
            tape.wipe();
            return NOTHING;
        }
        boolean right = question.read();
        tape.wipe();
        if (!right) {
            return NOTHING;
        }
        future.go(current, sleepers[dreamer]);
        return question.answer(future);
    }

    public int image() {
        pictureSize = 0;
        for (int i = 0; i < current.count(DREAMER) && i < sleepers.length; i++) {
            paint(sleepers[i].guide + 1);
            for (int j = 0; j < current.count(DREAD); j++) {
                int weight = sleepers[i].at(j);
                paint(weight >> 8);
                paint(weight & 255);
            }
        }
        int check = 181;
        for (int i = 0; i < pictureSize && i < PICTURE; i++) {
            check = (3 * check + picture[i]) % 251;
        }
        paint(check);
        return pictureSize;
    }

    public int octet(int k) {
        return k >= 0 && k < pictureSize && k < PICTURE ? picture[k] : NONE;
    }

    public boolean on() {
        boolean right = isPicture();
        if (right) {
            int at = 0;
            for (int i = 0; i < current.count(DREAMER) && i < sleepers.length; i++) {
                sleepers[i].guide = tape.byteAt(at) - 1;
                at++;
                for (int j = 0; j < current.count(DREAD); j++) {
                    sleepers[i].put(j, tape.pairAt(at));
                    at += 2;
                }
            }
            acts.forget();
        } else {
            refuse(5);
        }
        tape.wipe();
        return right;
    }

    public int status(int what) {
        return what >= 0 && what < refusals.length ? refusals[what] : NONE;
    }

    private int refuse(int which) {
        if (which >= 0 && which < refusals.length) {
            refusals[which]++;
        }
        return NONE;
    }

    private boolean isDreamer(int dreamer) {
        return dreamer < sleepers.length && current.isThere(DREAMER, dreamer);
    }

    private boolean isDread(int dread) {
        return current.isThere(DREAD, dread);
    }

    private int countHome() {
        int many = 0;
        for (int i = 0; i < current.count(DREAMER) && i < sleepers.length; i++) {
            if (current.isHome(sleepers[i])) {
                many++;
            }
        }
        return many;
    }

    private int draw(int m) {
        lot = (int) ((1103515245L * lot + 12345L) & 0x7fffffffL);
        return m > 0 ? (lot >> 6) % m : 0;
    }

    private void paint(int octet) {
        if (pictureSize >= 0 && pictureSize < PICTURE) {
            picture[pictureSize] = octet;
            pictureSize++;
        }
    }

    private boolean isPicture() {
        int size = current.count(DREAMER) * (1 + 2 * current.count(DREAD));
        if (tape.size != size + 1) {
            return false;
        }
        int check = 181;
        for (int i = 0; i < size; i++) {
            check = (3 * check + tape.byteAt(i)) % 251;
        }
        if (tape.byteAt(size) != check) {
            return false;
        }
        int at = 0;
        boolean right = true;
        for (int i = 0; i < current.count(DREAMER); i++) {
            right = right && tape.byteAt(at) <= current.count(GUIDE);
            at++;
            for (int j = 0; j < current.count(DREAD); j++) {
                right = right && tape.pairAt(at) <= HEAVIEST;
                at += 2;
            }
        }
        return right;
    }

    private static Sleeper[] newSleepers(int n) {
        Sleeper[] made = new Sleeper[n < 0 ? 0 : n];
        for (int i = 0; i < made.length; i++) {
            made[i] = new Sleeper();
        }
        return made;
    }

    /** The tape, and a reader that goes along it up to the first FAULT. */
    private static final class Text {
        private final int[] bytes = new int[TAPE];
        private int size = 0;
        private int at = 0;
        private int fault = 0;
        private int place = NONE;
        private int tokenEnd = NONE;
        private int nameFrom = 0;
        private int nameSize = 0;

        void add(int number) {
            for (int shift = 24; shift >= 0; shift -= 8) {
                if (size >= 0 && size < bytes.length) {
                    bytes[size] = (number >>> shift) & 255;
                    size++;
                }
            }
        }

        void wipe() {
            size = 0;
        }

        int byteAt(int k) {
            return k >= 0 && k < size && k < bytes.length ? bytes[k] : NONE;
        }

        int pairAt(int k) {
            return 256 * byteAt(k) + byteAt(k + 1);
        }

        void start() {
            at = 0;
            fault = 0;
            place = NONE;
            tokenEnd = NONE;
        }

        boolean failed() {
            return fault != 0;
        }

        /** The first FAULT counts: what is blamed behind it is only its consequence. */
        void blame(int kind, int where) {
            if (fault == 0) {
                fault = kind;
                place = where;
            }
        }

        void blameHere(int kind) {
            look();
            blame(kind, at);
        }

        /** Goes over the blanks: the byte behind them, NONE at the end. */
        int look() {
            while (at < size && at < bytes.length && (bytes[at] == 10 || bytes[at] == 32)) {
                at++;
            }
            return at < size && at < bytes.length ? bytes[at] : NONE;
        }

        boolean sees(char sign) {
            return look() == sign;
        }

        void step() {
            at++;
        }

        void demand(char sign) {
            if (sees(sign)) {
                step();
            } else {
                blameHere(1);
            }
        }

        void demandEnd() {
            if (look() != NONE) {
                blameHere(1);
            }
        }

        private static boolean isDigit(int c) {
            return c >= '0' && c <= '9';
        }

        boolean seesDigit() {
            return isDigit(look());
        }

        /** How many letters stand here; none, where the blank behind a word or number lacks. */
        private int wordSize() {
            int to = at;
            while (at != tokenEnd && to < size && to < bytes.length && bytes[to] >= 'a' && bytes[to] <= 'z') {
                to++;
            }
            return to - at;
        }

        /** The number of the word here among those of a row (one blank between two); NONE. */
        int wordIn(String words) {
            look();
            int letters = wordSize();
            if (letters == 0) {
                return NONE;
            }
            int number = 0;
            int k = 0;
            boolean alike = true;
            for (int i = 0; i < words.length(); i++) {
                char c = words.charAt(i);
                if (c != ' ') {
                    alike = alike && k < letters && byteAt(at + k) == c;
                    k++;
                } else if (alike && k == letters) {
                    return number;
                } else {
                    number++;
                    k = 0;
                    alike = true;
                }
            }
            return alike && k == letters ? number : NONE;
        }

        void skipWord() {
            look();
            at += wordSize();
            tokenEnd = at;
        }

        boolean takeWord(String word) {
            if (wordIn(word) == NONE) {
                return false;
            }
            skipWord();
            return true;
        }

        void demandWord(String word) {
            if (!takeWord(word)) {
                blameHere(1);
            }
        }

        /** Reads a NAME, whatever it stands for. */
        boolean takeName() {
            look();
            int letters = wordSize();
            if (letters == 0 || wordIn(OWN_WORDS) != NONE) {
                blameHere(1);
            } else if (letters > LETTERS) {
                blame(1, at + LETTERS);
            }
            if (failed()) {
                return false;
            }
            nameFrom = at;
            nameSize = letters;
            at += letters;
            tokenEnd = at;
            return true;
        }

        /** Reads a number; one above the greatest can't be. */
        int takeNumber(int greatest) {
            if (!seesDigit() || at == tokenEnd) {
                blameHere(1);
                return 0;
            }
            int from = at;
            int value = 0;
            for (int i = 0; i < DIGITS && isDigit(byteAt(at)); i++) {
                value = 10 * value + byteAt(at) - '0';
                at++;
            }
            if (isDigit(byteAt(at))) {
                blame(1, at);
            } else if (value > greatest) {
                blame(2, from);
            }
            tokenEnd = at;
            return value;
        }
    }

    /** SUMs and TESTs as rows of steps, each behind what it is done to; and what they give. */
    private static final class Reckoner {
        private final int[] steps = new int[TAPE];
        private int size = 0;
        private final int[] stack = new int[WAITING];
        private int top = 0;
        private final int[] known = new int[KNOWN];
        private final int[] weights = new int[DREADS];

        void clear() {
            size = 0;
        }

        void add(int step) {
            if (size >= 0 && size < steps.length) {
                steps[size] = step;
                size++;
            }
        }

        /** Sees these weights: what is asked of all of them follows. */
        void see(int[] row, int from) {
            int worst = 0;
            int sum = 0;
            int many = 0;
            for (int i = 0; i < DREADS; i++) {
                int weight = from >= 0 && from + i < row.length ? row[from + i] : 0;
                weights[i] = weight;
                worst = Math.max(worst, weight);
                sum += weight;
                many += weight > 0 ? 1 : 0;
            }
            know(WORST, worst);
            know(SUM, sum);
            know(MANY, many);
        }

        void know(int what, int n) {
            if (what >= 0 && what < known.length) {
                known[what] = n;
            }
        }

        int value(int from, int to) {
            top = 0;
            for (int i = Math.max(from, 0); i < to && i < size && i < steps.length; i++) {
                int step = steps[i];
                if (step >= 0) {
                    push(step);
                } else if (step <= FACTS) {
                    push(fact(FACTS - step));
                } else if (step == NOT) {
                    push(pop() == 0 ? 1 : 0);
                } else if (step == WEIGHT_OF) {
                    push(weightOf(pop()));
                } else {
                    int right = pop();
                    push(join(step, pop(), right));
                }
            }
            return pop();
        }

        private void push(int n) {
            if (top >= 0 && top < stack.length) {
                stack[top] = n;
                top++;
            }
        }

        private int pop() {
            if (top <= 0 || top > stack.length) {
                return 0;
            }
            top--;
            return stack[top];
        }

        private int fact(int what) {
            return what >= 0 && what < known.length ? known[what] : 0;
        }

        private int weightOf(int dread) {
            return dread >= 0 && dread < weights.length ? weights[dread] : 0;
        }

        private static int join(int step, int left, int right) {
            switch (step) {
                case PLUS: return Math.max(-HELD, Math.min(HELD, left + right));
                case MINUS: return Math.max(-HELD, Math.min(HELD, left - right));
                case TIMES: return (int) Math.max(-HELD, Math.min(HELD, (long) left * right));
                case OVER: return right == 0 ? 0 : Math.floorDiv(left, right);
                case MIN: return Math.min(left, right);
                case MAX: return Math.max(left, right);
                case LESS: return left < right ? 1 : 0;
                case MORE: return left > right ? 1 : 0;
                case LIKE: return left == right ? 1 : 0;
                case AND: return left & right;
                case OR: return left | right;
                default: return 0;
            }
        }
    }

    /** Reads SUMs, those of a DREAM or those of a QUESTION; open counts what is open around. */
    private static final class SumReader {
        private final Text text;
        private Reckoner target = null;
        private boolean questions = false;

        SumReader(Text text) {
            this.text = text;
        }

        void write(Reckoner into, boolean ofQuestions) {
            target = into;
            questions = ofQuestions;
        }

        void emit(int step) {
            if (target != null) {
                target.add(step);
            }
        }

        /** Whether one more may be open here; it is a FAULT if not. */
        boolean mayOpen(int open) {
            if (open < OPEN) {
                return true;
            }
            text.blameHere(4);
            return false;
        }

        /** Where a SUM stands; what it gives are steps of the target. */
        private void readSum(int open) {
            readProduct(open);
            for (int i = 0; i < TAPE && !text.failed(); i++) {
                int step = text.sees('+') ? PLUS : text.sees('-') ? MINUS : 0;
                if (step == 0) {
                    return;
                }
                text.step();
                readProduct(open);
                emit(step);
            }
        }

        private void readProduct(int open) {
            readPart(open);
            for (int i = 0; i < TAPE && !text.failed(); i++) {
                int step = text.sees('*') ? TIMES : text.sees('/') ? OVER : 0;
                if (step == 0) {
                    return;
                }
                text.step();
                readPart(open);
                emit(step);
            }
        }

        private void readPart(int open) {
            if (text.failed()) {
                return;
            }
            if (text.seesDigit()) {
                emit(text.takeNumber(GREATEST_NUMBER));
            } else if (text.sees('(')) {
                if (mayOpen(open)) {
                    text.step();
                    readSum(open + 1);
                    text.demand(')');
                }
            } else {
                readWord(open);
            }
        }

        private void readWord(int open) {
            int which = text.wordIn(questions ? QUESTION_PARTS : DREAM_PARTS);
            int step = 0;
            if (which >= 0 && which < DREAM_STEPS.length && which < QUESTION_STEPS.length) {
                step = questions ? QUESTION_STEPS[which] : DREAM_STEPS[which];
            }
            if (step == 0) {
                text.blameHere(1);
            } else if (step == MIN || step == MAX) {
                text.skipWord();
                readPair(open);
                emit(step);
            } else if (step != WEIGHT_OF) {
                text.skipWord();
                emit(step);
            } else if (mayOpen(open)) {
                text.skipWord();
                readPart(open + 1);
                emit(step);
            }
        }

        private void readPair(int open) {
            if (!text.sees('(')) {
                text.blameHere(1);
            } else if (mayOpen(open)) {
                text.step();
                readSum(open + 1);
                text.demand(',');
                readSum(open + 1);
                text.demand(')');
            }
        }
    }

    /** THE DREAM: what its text tells, and what that makes of weights. */
    private static final class Dream {
        private final int[] letters = new int[LETTERS * NAMES];
        private final int[] counted = new int[SORTS];
        private final int[] braveries = new int[DREAMERS];
        private final int[] fears = new int[DREAMERS * DREADS];
        private final int[] afraid = new int[GUIDES];
        private int home = 0;
        private int laugh = 0;
        private int spite = 0;
        private final Reckoner reckoner = new Reckoner();
        private final int[] from = new int[SUMS];
        private final int[] to = new int[SUMS];

        void clear() {
            for (int i = 0; i < counted.length; i++) {
                counted[i] = 0;
            }
            for (int i = 0; i < fears.length; i++) {
                fears[i] = 0;
            }
            for (int i = 0; i < SUMS; i++) {
                from[i] = 0;
                to[i] = 0;
            }
            home = 0;
            laugh = 0;
            spite = 0;
            reckoner.clear();
        }

        int count(int sort) {
            return sort >= 0 && sort < counted.length ? counted[sort] : 0;
        }

        boolean isThere(int sort, int which) {
            return which >= 0 && which < count(sort);
        }

        /** Whether there is room for one more of a sort. */
        boolean isFull(int sort) {
            return sort < 0 || sort >= SORTS || count(sort) >= FIRST_NAME[sort + 1] - FIRST_NAME[sort];
        }

        int placeOf(int sort, int which) {
            return sort >= 0 && sort < SORTS ? FIRST_NAME[sort] + which : NONE;
        }

        int letterAt(int place, int k) {
            int i = place * LETTERS + k;
            return i >= 0 && i < letters.length ? letters[i] : 0;
        }

        /** Gives the NAME that a text has just read to the next one of a sort: its number. */
        int giveName(int sort, Text text) {
            if (isFull(sort)) {
                return NONE;
            }
            int which = counted[sort];
            int place = placeOf(sort, which) * LETTERS;
            for (int k = 0; k < LETTERS; k++) {
                if (place >= 0 && place + k < letters.length) {
                    letters[place + k] = k < text.nameSize ? text.byteAt(text.nameFrom + k) - 'a' + 1 : 0;
                }
            }
            counted[sort]++;
            return which;
        }

        /** Which one of a sort bears the NAME that a text has just read. */
        int findName(int sort, Text text) {
            for (int i = 0; i < count(sort); i++) {
                boolean alike = true;
                for (int k = 0; k < LETTERS; k++) {
                    int c = k < text.nameSize ? text.byteAt(text.nameFrom + k) - 'a' + 1 : 0;
                    alike = alike && c == letterAt(placeOf(sort, i), k);
                }
                if (alike) {
                    return i;
                }
            }
            return NONE;
        }

        void brave(int dreamer, int n) {
            if (dreamer >= 0 && dreamer < braveries.length) {
                braveries[dreamer] = n;
            }
        }

        void fear(int dreamer, int dread, int n) {
            int i = dreamer * DREADS + dread;
            if (dreamer >= 0 && dread >= 0 && dread < DREADS && i < fears.length) {
                fears[i] = n;
            }
        }

        void lead(int guide, int dread) {
            if (guide >= 0 && guide < afraid.length) {
                afraid[guide] = dread;
            }
        }

        boolean hasSum(int which) {
            return which >= 0 && which < SUMS && to[which] > from[which];
        }

        void markSum(int which, int start) {
            if (which >= 0 && which < SUMS) {
                from[which] = start;
                to[which] = reckoner.size;
            }
        }

        int braveryOf(int dreamer) {
            return dreamer >= 0 && dreamer < braveries.length ? braveries[dreamer] : 0;
        }

        int dreadOf(int guide) {
            return guide >= 0 && guide < afraid.length ? afraid[guide] : NONE;
        }

        /** Lays a DREAMER down as the text tells of him. */
        void lay(Sleeper s, int dreamer) {
            s.number = dreamer;
            s.guide = NONE;
            for (int i = 0; i < DREADS; i++) {
                int k = dreamer * DREADS + i;
                s.put(i, k >= 0 && k < fears.length ? fears[k] : 0);
            }
        }

        int counts(Sleeper s, int dread) {
            int weight = s.at(dread);
            if (s.guide == NONE) {
                return weight;
            }
            return dreadOf(s.guide) == dread ? 2 * weight : weight / 2;
        }

        /** The first DREAD that COUNTS most, the one left out aside; NONE if there is none. */
        int heaviest(Sleeper s, int leftOut) {
            int found = NONE;
            int most = NONE;
            for (int i = 0; i < count(DREAD); i++) {
                int n = counts(s, i);
                if (i != leftOut && n > most) {
                    found = i;
                    most = n;
                }
            }
            return found;
        }

        boolean isHome(Sleeper s) {
            return s.total() <= home;
        }

        /** The weight that one of the SUMs would make of a DREAD's now. */
        int becomes(Sleeper s, int dread, int which) {
            if (!hasSum(which)) {
                return s.at(dread);
            }
            reckoner.see(s.weights, 0);
            reckoner.know(WEIGH, s.at(dread));
            reckoner.know(NUMBER, dread);
            reckoner.know(BRAVE, braveryOf(s.number));
            return Math.max(0, Math.min(HEAVIEST, reckoner.value(from[which], to[which])));
        }

        boolean canEnter(Sleeper s, boolean round) {
            return count(DREAD) > (round ? 1 : 0) && !isHome(s);
        }

        /** A ROOM: the DREAD he is with; NONE (nothing is done) if there is none for him. */
        int enter(Sleeper s, boolean round) {
            if (!canEnter(s, round)) {
                return NONE;
            }
            int worst = heaviest(s, NONE);
            if (!round) {
                s.put(worst, becomes(s, worst, MEET));
                return worst;
            }
            int second = heaviest(s, worst);
            int met = becomes(s, second, MEET);
            s.put(worst, becomes(s, worst, SHUN));
            s.put(second, met);
            return second;
        }

        void meetByDay(Sleeper s, int dread) {
            s.put(dread, becomes(s, dread, BYDAY));
        }
    }

    /** Reads the text of a DREAM. */
    private static final class DreamReader {
        private final Text text;
        private final SumReader sums;

        DreamReader(Text text, SumReader sums) {
            this.text = text;
            this.sums = sums;
        }

        /** How many STATEMENTS there are; NONE with a FAULT. */
        int read(Dream told) {
            told.clear();
            sums.write(told.reckoner, false);
            text.start();
            int statements = 0;
            while (statements <= STATEMENTS && !text.failed() && text.look() != NONE) {
                if (statements == STATEMENTS) {
                    text.blameHere(5);
                } else {
                    readStatement(told);
                    text.demand(';');
                }
                statements++;
            }
            return text.failed() ? NONE : statements;
        }

        private void readStatement(Dream told) {
            int opener = text.wordIn(OPENERS);
            if (opener == NONE) {
                text.blameHere(1);
                return;
            }
            if (isOneTooMany(told, opener)) {
                text.blameHere(5);
                return;
            }
            text.skipWord();
            switch (opener) {
                case 0: readNewName(told, DREAD); break;
                case 1: readDreamer(told); break;
                case 2: readFears(told); break;
                case 3: readGuide(told); break;
                case 4: readSum(told, MEET); break;
                case 5: readSum(told, SHUN); break;
                case 6: readSum(told, BYDAY); break;
                case 7: told.home = text.takeNumber(GREATEST_NUMBER); break;
                case 8: told.laugh = text.takeNumber(100); break;
                default: told.spite = text.takeNumber(HEAVIEST); break;
            }
        }

        private static boolean isOneTooMany(Dream told, int opener) {
            switch (opener) {
                case 0: return told.isFull(DREAD);
                case 1: return told.isFull(DREAMER);
                case 3: return told.isFull(GUIDE);
                case 4: return told.hasSum(MEET);
                case 5: return told.hasSum(SHUN);
                case 6: return told.hasSum(BYDAY);
                default: return false;
            }
        }

        private void readDreamer(Dream told) {
            int dreamer = readNewName(told, DREAMER);
            text.demandWord("brave");
            told.brave(dreamer, text.takeNumber(9));
        }

        private void readFears(Dream told) {
            int dreamer = readKnownName(told, DREAMER);
            int dread = readKnownName(told, DREAD);
            told.fear(dreamer, dread, text.takeNumber(HEAVIEST));
        }

        private void readGuide(Dream told) {
            int guide = readNewName(told, GUIDE);
            text.demandWord("of");
            told.lead(guide, readKnownName(told, DREAD));
        }

        private void readSum(Dream told, int which) {
            int start = told.reckoner.size;
            sums.readSum(0);
            told.markSum(which, start);
        }

        private int readNewName(Dream told, int sort) {
            if (text.failed() || !text.takeName()) {
                return NONE;
            }
            for (int i = 0; i < SORTS; i++) {
                if (told.findName(i, text) != NONE) {
                    text.blame(3, text.nameFrom);
                }
            }
            return text.failed() ? NONE : told.giveName(sort, text);
        }

        private int readKnownName(Dream told, int sort) {
            if (text.failed() || !text.takeName()) {
                return NONE;
            }
            int which = told.findName(sort, text);
            if (which == NONE) {
                text.blame(3, text.nameFrom);
            }
            return which;
        }
    }

    /** A DREAMER as he is, or a copy of him that goes ahead. */
    private static final class Sleeper {
        private final int[] weights = new int[DREADS];
        private int number = 0;
        private int guide = NONE;

        void copy(Sleeper other) {
            number = other.number;
            guide = other.guide;
            for (int i = 0; i < DREADS; i++) {
                weights[i] = other.weights[i];
            }
        }

        int at(int dread) {
            return dread >= 0 && dread < weights.length ? weights[dread] : 0;
        }

        void put(int dread, int n) {
            if (dread >= 0 && dread < weights.length) {
                weights[dread] = n;
            }
        }

        int total() {
            int sum = 0;
            for (int i = 0; i < weights.length; i++) {
                sum += weights[i];
            }
            return sum;
        }

        int greatest() {
            int most = 0;
            for (int i = 0; i < weights.length; i++) {
                most = Math.max(most, weights[i]);
            }
            return most;
        }

        int countHeavy() {
            int many = 0;
            for (int i = 0; i < weights.length; i++) {
                many += weights[i] > 0 ? 1 : 0;
            }
            return many;
        }

        void laugh() {
            for (int i = 0; i < weights.length; i++) {
                weights[i] /= 2;
            }
        }

        boolean isLike(int[] rows, int from) {
            boolean alike = true;
            for (int i = 0; i < weights.length; i++) {
                alike = alike && from >= 0 && from + i < rows.length && rows[from + i] == weights[i];
            }
            return alike;
        }

        void writeTo(int[] rows, int from) {
            for (int i = 0; i < weights.length; i++) {
                if (from >= 0 && from + i < rows.length) {
                    rows[from + i] = weights[i];
                }
            }
        }
    }

    /** The latest ACTS: of each the DREAMER as he was ahead of it. */
    private static final class Acts {
        private final Sleeper[] kept = newSleepers(UNDONE);
        private int next = 0;
        private int count = 0;

        void forget() {
            count = 0;
        }

        void keep(Sleeper s) {
            if (next >= 0 && next < kept.length) {
                kept[next].copy(s);
            }
            next = next + 1 >= UNDONE ? 0 : next + 1;
            count = Math.min(count + 1, UNDONE);
        }

        void takeBack(Sleeper[] sleepers) {
            next = next <= 0 ? UNDONE - 1 : next - 1;
            count = Math.max(count - 1, 0);
            if (next < kept.length) {
                int who = kept[next].number;
                if (who >= 0 && who < sleepers.length) {
                    sleepers[who].copy(kept[next]);
                }
            }
        }
    }

    /** AHEAD, alone and HAND IN HAND: the ROOMS that come, and the weights ahead of each. */
    private static final class Ahead {
        private final int[] rows = new int[(ROOMS + 1) * DREADS];
        private final int[] dreads = new int[ROOMS];
        private int count = 0;
        private boolean isHome = true;
        private final Sleeper walker = new Sleeper();
        private final Sleeper other = new Sleeper();

        void go(Dream dream, Sleeper s) {
            walker.copy(s);
            walker.writeTo(rows, 0);
            count = 0;
            isHome = dream.isHome(walker);
            for (int k = 0; k < ROOMS && !isHome; k++) {
                dreads[k] = dream.enter(walker, false);
                count = k + 1;
                walker.writeTo(rows, count * DREADS);
                isHome = dream.isHome(walker);
            }
        }

        int dreadIn(int k) {
            return k >= 0 && k < count && k < ROOMS ? dreads[k] : NONE;
        }

        int weightAt(int k, int dread) {
            int i = k * DREADS + dread;
            return i >= 0 && i < rows.length ? rows[i] : 0;
        }

        /** The first ROOM ahead of which all weights are as they are ahead of the k-th. */
        int firstLike(int k) {
            for (int j = 0; j < k; j++) {
                boolean alike = true;
                for (int i = 0; i < DREADS && alike; i++) {
                    alike = weightAt(j, i) == weightAt(k, i);
                }
                if (alike) {
                    return j;
                }
            }
            return k;
        }

        /** HAND IN HAND: how many ROOMS; NONE when 200 are not enough. */
        int goTogether(Dream dream, Sleeper first, Sleeper second) {
            walker.copy(first);
            other.copy(second);
            count = 0;
            isHome = dream.isHome(walker) && dream.isHome(other);
            for (int k = 0; k < ROOMS && !isHome; k++) {
                int dread = heaviestOfBoth(dream);
                dreads[k] = dread;
                count = k + 1;
                walker.put(dread, dream.becomes(walker, dread, MEET));
                other.put(dread, dream.becomes(other, dread, MEET));
                isHome = dream.isHome(walker) && dream.isHome(other);
            }
            return isHome ? count : NONE;
        }

        private int heaviestOfBoth(Dream dream) {
            int found = NONE;
            int most = NONE;
            for (int i = 0; i < dream.count(DREAD); i++) {
                int n = walker.at(i) + other.at(i);
                if (n > most) {
                    found = i;
                    most = n;
                }
            }
            return found;
        }

        /** Whether his first ROOMS are those of a row, if the weight of one DREAD is n. */
        boolean follows(Dream dream, Sleeper s, int dread, int n, int[] row, int rooms) {
            walker.copy(s);
            walker.put(dread, n);
            boolean alike = true;
            for (int k = 0; k < rooms && k < row.length && alike; k++) {
                alike = dream.enter(walker, false) == row[k];
            }
            return alike;
        }
    }

    /** WAYS HOME: those with the fewest ROOMS or the least dread, also with GUIDES, behind DAYS. */
    private static final class Ways {
        private final Sleeper[] steps = newSleepers(WAY + 1);
        private final int[] way = new int[WAY];
        private final int[] best = new int[WAY];
        private int bestRooms = 0;
        private int bestDread = 0;
        private boolean byDread = false;
        private final Sleeper taker = new Sleeper();
        private int bestGuide = NONE;
        private final Sleeper morning = new Sleeper();
        private final int[] order = new int[MET_BY_DAY];
        private final int[] bestOrder = new int[MET_BY_DAY];
        private final int[] ends = new int[ORDERS * DREADS];
        private int endCount = 0;

        /** SOONEST: how many ROOMS, fewer than some; NONE if there is none. */
        int findSoonest(Dream dream, Sleeper s, int fewerThan) {
            steps[0].copy(s);
            byDread = false;
            bestDread = 0;
            bestRooms = fewerThan;
            seek(dream, 0, 0);
            return bestRooms < fewerThan ? bestRooms : NONE;
        }

        /** LEAST DREAD: how many ROOMS; NONE without a WAY HOME. */
        int findLeast(Dream dream, Sleeper s) {
            steps[0].copy(s);
            byDread = true;
            bestDread = HELD;
            bestRooms = WAY + 1;
            seek(dream, 0, 0);
            return bestRooms <= WAY ? bestRooms : NONE;
        }

        /** Whether he GOES ROUND in the k-th ROOM of the way found. */
        int turn(int k, int rooms) {
            return k >= 0 && k < rooms && k < best.length ? best[k] : NONE;
        }

        /** From here on nothing can be better than the best way so far, if not even now it is. */
        private boolean isBetter(int depth, int dread) {
            return dread < bestDread || dread == bestDread && depth < bestRooms;
        }

        private void seek(Dream dream, int depth, int dread) {
            if (depth < 0 || depth > WAY || !isBetter(depth, dread)) {
                return;
            }
            if (dream.isHome(steps[depth])) {
                bestRooms = depth;
                bestDread = dread;
                System.arraycopy(way, 0, best, 0, WAY);
            } else if (depth < WAY) {
                goOn(dream, depth, dread, false);
                goOn(dream, depth, dread, true);
            }
        }

        private void goOn(Dream dream, int depth, int dread, boolean round) {
            if (depth < 0 || depth >= WAY) {
                return;
            }
            steps[depth + 1].copy(steps[depth]);
            int with = dream.enter(steps[depth + 1], round);
            if (with != NONE) {
                way[depth] = round ? 1 : 0;
                seek(dream, depth + 1, byDread ? dread + steps[depth].at(with) : 0);
            }
        }

        /** ALONG: how many ROOMS; NONE without a WAY HOME with any. */
        int findGuide(Dream dream, Sleeper s) {
            taker.copy(s);
            int fewest = WAY + 1;
            for (int guide = NONE; guide < dream.count(GUIDE); guide++) {
                taker.guide = guide;
                int rooms = findSoonest(dream, taker, fewest);
                if (rooms != NONE) {
                    fewest = rooms;
                    bestGuide = guide;
                }
            }
            return fewest <= WAY ? fewest : NONE;
        }

        /** DAYS: how many ROOMS behind them; NONE without a WAY HOME. */
        int findDays(Dream dream, Sleeper s, int set) {
            int fewest = WAY + 1;
            endCount = 0;
            for (int number = 0; number < ORDERS; number++) {
                int met = setOrder(set, number);
                morning.copy(s);
                for (int i = 0; i < met && i < order.length; i++) {
                    dream.meetByDay(morning, order[i]);
                }
                int rooms = met == NONE || isEndKnown(morning) ? NONE : findSoonest(dream, morning, fewest);
                if (rooms != NONE) {
                    fewest = rooms;
                    System.arraycopy(order, 0, bestOrder, 0, MET_BY_DAY);
                }
            }
            return fewest <= WAY ? fewest : NONE;
        }

        int metByDay(int k) {
            return k >= 0 && k < bestOrder.length ? bestOrder[k] : NONE;
        }

        /** Makes the order of this number (from 0 on) of a set: how many; NONE behind the last order. */
        private int setOrder(int set, int number) {
            int many = Integer.bitCount(set);
            int orders = 1;
            for (int i = 2; i <= many && i <= MET_BY_DAY; i++) {
                orders *= i;
            }
            if (number >= orders || many > MET_BY_DAY) {
                return NONE;
            }
            int left = set;
            int rest = number;
            for (int i = 0; i < many && i < order.length; i++) {
                orders /= many - i;
                order[i] = lowestBit(left, orders > 0 ? rest / orders : 0);
                rest = orders > 0 ? rest % orders : 0;
                left &= ~(1 << order[i]);
            }
            return many;
        }

        /** The lowest DREAD of a set that has so many of it below. */
        private static int lowestBit(int set, int below) {
            int seen = 0;
            for (int i = 0; i < DREADS; i++) {
                if ((set >> i & 1) == 1) {
                    if (seen == below) {
                        return i;
                    }
                    seen++;
                }
            }
            return 0;
        }

        /** Orders that end alike have the same ways: the first of them is enough. */
        private boolean isEndKnown(Sleeper s) {
            for (int i = 0; i < endCount; i++) {
                if (s.isLike(ends, i * DREADS)) {
                    return true;
                }
            }
            s.writeTo(ends, endCount * DREADS);
            endCount = Math.min(endCount + 1, ORDERS);
            return false;
        }
    }

    /** AGAINST a dream that chooses, and by CHANCE. */
    private static final class Fates {
        // For each ROOM one as he is ahead of it, one behind it, ahead of what the dream does.
        private final Sleeper[] ahead = newSleepers(ROOMS_AGAINST + 1);
        private final Sleeper[] behind = newSleepers(ROOMS_AGAINST + 1);
        private final Sleeper walker = new Sleeper();

        boolean canBeHome(Dream dream, Sleeper s, int n) {
            ahead[0].copy(s);
            return escapes(dream, 0, n);
        }

        private boolean escapes(Dream dream, int depth, int n) {
            if (depth < 0 || depth >= ahead.length) {
                return false;
            }
            if (dream.isHome(ahead[depth])) {
                return true;
            }
            return depth < n && (bears(dream, depth, n, false) || bears(dream, depth, n, true));
        }

        /** Whether he can be HOME behind this choice, whatever the dream does. */
        private boolean bears(Dream dream, int depth, int n, boolean round) {
            if (depth < 0 || depth + 1 >= ahead.length || depth >= behind.length) {
                return false;
            }
            behind[depth].copy(ahead[depth]);
            boolean safe = dream.enter(behind[depth], round) != NONE;
            for (int i = 0; i < dream.count(DREAD) && safe; i++) {
                ahead[depth + 1].copy(behind[depth]);
                ahead[depth + 1].put(i, Math.min(HEAVIEST, behind[depth].at(i) + dream.spite));
                safe = escapes(dream, depth + 1, n);
            }
            return safe;
        }

        /** How likely he is HOME by n ROOMS: each row of laughs and none has its share. */
        int thousandths(Dream dream, Sleeper s, int n) {
            long shares = 0;
            long all = 1;
            for (int i = 0; i < n && i < ROOMS_OF_CHANCE; i++) {
                all *= 100;
            }
            for (int laughs = 0; laughs < 1 << n && n <= ROOMS_OF_CHANCE; laughs++) {
                shares += shareHome(dream, s, n, laughs);
            }
            return all > 0 ? (int) (1000 * shares / all) : 0;
        }

        private long shareHome(Dream dream, Sleeper s, int n, int laughs) {
            walker.copy(s);
            long share = 1;
            for (int i = 0; i < n; i++) {
                // Who is HOME enters no ROOM, and no laugh takes him from there.
                dream.enter(walker, false);
                if ((laughs >> i & 1) == 1) {
                    walker.laugh();
                    share *= dream.laugh;
                } else {
                    share *= 100 - dream.laugh;
                }
            }
            return dream.isHome(walker) ? share : 0;
        }
    }

    /** A QUESTION: its text read, and its answer from the ROOMS AHEAD. */
    private static final class Question {
        private final Text text;
        private final SumReader sums;
        private final Reckoner reckoner = new Reckoner();
        private int head = NONE;

        Question(Text text, SumReader sums) {
            this.text = text;
            this.sums = sums;
        }

        /** Whether it is one; a FAULT tells if not. */
        boolean read() {
            text.start();
            reckoner.clear();
            sums.write(reckoner, true);
            head = text.wordIn(HEADS);
            if (head == NONE) {
                text.blameHere(1);
                return false;
            }
            text.skipWord();
            if (head <= 2) {
                readTest(0);
            } else {
                sums.readSum(0);
            }
            text.demandEnd();
            return !text.failed();
        }

        private void readTest(int open) {
            readBoth(open);
            for (int i = 0; i < TAPE && !text.failed() && text.takeWord("or"); i++) {
                readBoth(open);
                sums.emit(OR);
            }
        }

        private void readBoth(int open) {
            readFact(open);
            for (int i = 0; i < TAPE && !text.failed() && text.takeWord("and"); i++) {
                readFact(open);
                sums.emit(AND);
            }
        }

        private void readFact(int open) {
            if (text.wordIn("not") != NONE) {
                if (sums.mayOpen(open)) {
                    text.skipWord();
                    readFact(open + 1);
                    sums.emit(NOT);
                }
            } else if (text.sees('[')) {
                if (sums.mayOpen(open)) {
                    text.step();
                    readTest(open + 1);
                    text.demand(']');
                }
            } else if (text.takeWord("all")) {
                sums.emit(1);
            } else {
                sums.readSum(open);
                int step = text.sees('<') ? LESS : text.sees('>') ? MORE : text.sees('=') ? LIKE : 0;
                if (step == 0) {
                    text.blameHere(1);
                } else {
                    text.step();
                    sums.readSum(open);
                    sums.emit(step);
                }
            }
        }

        long answer(Ahead future) {
            long total = 0;
            int most = 0;
            int least = 0;
            int first = NONE;
            int last = NONE;
            int often = 0;
            for (int k = 0; k < future.count; k++) {
                int value = valueIn(future, k);
                total += value;
                most = k == 0 ? value : Math.max(most, value);
                least = k == 0 ? value : Math.min(least, value);
                if (value != 0) {
                    first = first == NONE ? k : first;
                    last = k;
                    often++;
                }
            }
            switch (head) {
                case 0: return first;
                case 1: return last;
                case 2: return often;
                case 3: return total;
                case 4: return most;
                default: return least;
            }
        }

        private int valueIn(Ahead future, int k) {
            reckoner.see(future.rows, k * DREADS);
            reckoner.know(ROOM, k);
            reckoner.know(NUMBER, future.dreadIn(k));
            return reckoner.value(0, reckoner.size);
        }
    }
}
