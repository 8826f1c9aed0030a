/**
 * A door that is held: walkers come to a door, and whoever goes through lets it go or stands there
 * for the next one, by a custom. What each call answers stands in the document, promise by promise.
 *
 * All rows are made once, with the object; no call makes anything.
 */
public final class DoorIsHeld {
    // The refusals, and the answer where there is none to tell.
    private static final int NOBODY = -1;
    private static final int OTHER = -2;
    private static final int STATE = -3;
    private static final int BELOW = -4;
    private static final int ROOM = -6;
    private static final int NONE = -9;

    private static final int MOST_WALKERS = 8;
    private static final int MOST_LETTERS = 80;
    private static final int MOST_FILMS = 10;
    private static final int MOST_IN_ROW = 8;
    private static final int MOST_SEEDS = 20;
    private static final int MOST_YARDS = 40;
    private static final int MOST_BAGS = 2;
    private static final int MOST_PACE = 4;
    private static final int MOST_FAR = 40;
    private static final int MOST_CUSTOM = 6;
    private static final int MOST_SHUTS = 9;
    private static final int MOST_DIGIT = 9;

    // What is told of the door; the first four as the call "set" numbers them.
    private static final int SHUTS = 0;
    private static final int HEAVY = 1;
    private static final int WARMTH = 2;
    private static final int FAR = 3;
    private static final int CUSTOM = 4;
    private static final int DOOR_SIDES = 5;

    // What is told of a walker, as the call "walker" numbers it.
    private static final int KIND = 0;
    private static final int START = 1;
    private static final int YARDS = 2;
    private static final int PACE = 3;
    private static final int BAGS = 4;
    private static final int LOOKS = 5;
    private static final int WORTH = 6;
    private static final int WALKER_SIDES = 7;
    private static final int YARDS_HELD_FOR = 7;

    // The kinds, each the place of its letter.
    private static final String KIND_LETTERS = "prhbco";
    private static final int RUNNER = 1;
    private static final int HURRIED = 2;
    private static final int BURDENED = 3;
    private static final int CARDED = 4;
    private static final int UNKIND = 5;

    private static final int BY_NEVER = 0;
    private static final int BY_YARDS = 1;
    private static final int BY_LOOKS = 2;
    private static final int BY_BAGS = 3;
    private static final int BY_ALWAYS = 4;
    private static final int BY_AS_DONE = 5;
    private static final int BY_WORTHS = 6;

    private final Told now = new Told();
    private final Told mind = new Told();
    private final Films films = new Films();
    private final Told imageOfTold = new Told();
    private final Films imageOfFilms = new Films();
    private boolean imageTaken = false;
    private final Letters letters = new Letters();
    private final Going going = new Going();
    private final int[] lossByNever = new int[MOST_WALKERS];
    private final int[] rowNumbers = new int[MOST_IN_ROW];
    private int inRow = 0;
    private final int[] refusals = new int[6];

    public DoorIsHeld() {
    }

    // ---- what is told (promises 1 to 7) ----

    public int letter(int c) {
        if (c < 0) {
            return refuse(BELOW);
        }
        if (c > 255 || letters.count >= MOST_LETTERS) {
            return refuse(ROOM);
        }
        letters.add(c);
        return letters.count;
    }

    public int way() {
        int answer = letters.findFault(now);
        if (answer == 0) {
            answer = letters.bringInto(now);
        }
        letters.count = 0;
        return answer;
    }

    public int walker(int walker, int what) {
        if (!now.has(walker)) {
            return refuse(NOBODY);
        }
        if (what < 0 || what > YARDS_HELD_FOR) {
            return refuse(OTHER);
        }
        return what == YARDS_HELD_FOR ? now.yardsHeldFor(walker) : now.of(walker, what);
    }

    public int set(int what, int v) {
        if (what < SHUTS || what > FAR) {
            return refuse(OTHER);
        }
        if (v < (what == SHUTS ? 1 : 0)) {
            return refuse(BELOW);
        }
        if (v > (what == FAR ? MOST_FAR : MOST_DIGIT)) {
            return refuse(ROOM);
        }
        return now.change(what, v);
    }

    public int custom(int v) {
        return isCustom(v) ? now.change(CUSTOM, v) : refuse(OTHER);
    }

    public int far(int one, int next, int held) {
        if (!now.has(one) || !now.has(next) || one == next) {
            return refuse(NOBODY);
        }
        if (!isBit(held)) {
            return refuse(OTHER);
        }
        return now.holdsUpTo(one, next, held == 1);
    }

    // ---- how it goes (8 to 21) ----

    public int there(int walker) {
        return now.has(walker) ? now.thereFrom(walker) : refuse(NOBODY);
    }

    public int order(int i) {
        if (i < 0) {
            return refuse(BELOW);
        }
        if (i >= now.walkers) {
            return NONE;
        }
        going.run(now);
        return at(going.order, i);
    }

    public int comes(int walker) {
        return answerOf(going.comes, walker);
    }

    public int through(int walker) {
        return answerOf(going.through, walker);
    }

    public int opens(int walker) {
        return answerOf(going.opens, walker);
    }

    public int stands(int walker) {
        return answerOf(going.stands, walker);
    }

    public int by(int walker) {
        return answerOf(going.by, walker);
    }

    public int runs(int walker) {
        return answerOf(going.runs, walker);
    }

    public int loss(int walker) {
        return walker == -1 ? allLoss(now) : answerOf(going.loss, walker);
    }

    public int holds() {
        going.run(now);
        return going.countHeldFor();
    }

    public int longest() {
        going.run(now);
        return going.longestStand();
    }

    public int away() {
        if (now.walkers == 0) {
            return NONE;
        }
        going.run(now);
        return going.goneAt(at(going.order, 0));
    }

    public int open() {
        going.run(now);
        return going.openSeconds(now.door(SHUTS));
    }

    public int coals() {
        going.run(now);
        return going.openSeconds(now.door(SHUTS)) * now.door(WARMTH);
    }

    // ---- in mind (22 to 29) ----

    public int byOther(int custom, int far) {
        if (!isCustom(custom)) {
            return refuse(OTHER);
        }
        if (far < 0) {
            return refuse(BELOW);
        }
        if (far > MOST_FAR) {
            return refuse(ROOM);
        }
        mind.become(now);
        mind.change(CUSTOM, custom);
        mind.change(FAR, far);
        return allLoss(mind);
    }

    public int bestFar() {
        return leastLossOver(FAR, MOST_FAR);
    }

    public int bestCustom() {
        return leastLossOver(CUSTOM, MOST_CUSTOM);
    }

    public int bestShuts() {
        mind.become(now);
        int best = 1;
        int least = 0;
        for (int shuts = 1; shuts <= MOST_SHUTS; shuts++) {
            mind.change(SHUTS, shuts);
            int cost = allLoss(mind) + going.openSeconds(shuts) * mind.door(WARMTH);
            if (shuts == 1 || cost < least) {
                best = shuts;
                least = cost;
            }
        }
        return best;
    }

    public int worse() {
        runByNever();
        for (int walker = 0; walker < now.walkers; walker++) {
            put(lossByNever, walker, at(going.loss, walker));
        }
        going.run(now);
        int bits = 0;
        for (int walker = 0; walker < now.walkers; walker++) {
            if (at(going.loss, walker) > at(lossByNever, walker)) {
                bits |= 1 << walker;
            }
        }
        return bits;
    }

    public int followed() {
        going.run(now);
        int bits = 0;
        for (int walker = 0; walker < now.walkers; walker++) {
            if (now.of(walker, KIND) != CARDED && at(going.opens, walker) == 0) {
                bits |= 1 << walker;
            }
        }
        return bits;
    }

    public int porter() {
        runByNever();
        return going.lossOfAll();
    }

    public int alone(int walker) {
        if (!now.has(walker)) {
            return refuse(NOBODY);
        }
        mind.become(now);
        mind.leaveOut(walker);
        return allLoss(mind);
    }

    // ---- films, seeds, the row (30 to 35) ----

    public int film(int yards, int looks, int bags, int held) {
        int refusal = refusalOfFilm(yards, bags, isBit(looks) && isBit(held));
        if (refusal != 0) {
            return refuse(refusal);
        }
        films.add(yards, looks, bags, held);
        return films.count;
    }

    public int told(int yards, int looks, int bags) {
        int refusal = refusalOfFilm(yards, bags, isBit(looks));
        if (refusal != 0) {
            return refuse(refusal);
        }
        if (!isFilmCustom(now.door(CUSTOM))) {
            return refuse(STATE);
        }
        int held = yards <= filmUpTo(now.door(CUSTOM), now.door(FAR), looks, bags) ? 1 : 0;
        films.add(yards, looks, bags, held);
        return held;
    }

    public int fitting(int custom, int what) {
        if (!isFilmCustom(custom) || what < 0 || what > 2) {
            return refuse(OTHER);
        }
        int many = 0;
        int least = NONE;
        int greatest = NONE;
        for (int far = 0; far <= MOST_FAR; far++) {
            if (films.allAreSo(custom, far)) {
                least = many == 0 ? far : least;
                greatest = far;
                many++;
            }
        }
        if (what == 0) {
            return many;
        }
        return what == 1 ? least : greatest;
    }

    public int seeds(int n, int z) {
        if (n < 1) {
            return refuse(BELOW);
        }
        if (n > MOST_SEEDS) {
            return refuse(ROOM);
        }
        // In mind alone: the looks that were told stay as they are.
        mind.become(now);
        int seed = z;
        int held = 0;
        for (int time = 0; time < n; time++) {
            for (int walker = 0; walker < mind.walkers; walker++) {
                seed = seed * 1664525 + 1013904223;
                mind.tell(walker, LOOKS, ((seed & 0x7fffffff) / 256) % 2);
            }
            going.run(mind);
            held += going.countHeldFor();
        }
        return held;
    }

    public int row(int v) {
        if (v < 0) {
            return refuse(BELOW);
        }
        if (v > MOST_DIGIT || inRow >= MOST_IN_ROW) {
            return refuse(ROOM);
        }
        put(rowNumbers, inRow, v);
        inRow++;
        return inRow;
    }

    public int judge() {
        going.run(now);
        int length = inRow;
        int both = Math.min(length, now.walkers);
        inRow = 0;
        for (int i = 0; i < both; i++) {
            if (at(rowNumbers, i) != at(going.order, i)) {
                return i;
            }
        }
        return length == now.walkers ? NONE : both;
    }

    // ---- the image, the counts (36 to 38) ----

    public int image() {
        imageOfTold.become(now);
        imageOfFilms.become(films);
        imageTaken = true;
        return now.walkers;
    }

    public int on() {
        if (!imageTaken) {
            return refuse(STATE);
        }
        now.become(imageOfTold);
        films.become(imageOfFilms);
        return now.walkers;
    }

    public int count(int what) {
        if (what >= 11 && what <= 16) {
            return at(refusals, what - 11);
        }
        switch (what) {
            case 0:
                return now.walkers;
            case 1:
                return now.door(SHUTS);
            case 2:
                return now.door(HEAVY);
            case 3:
                return now.door(WARMTH);
            case 4:
                return now.door(CUSTOM);
            case 5:
                return now.door(FAR);
            case 6:
                return films.count;
            case 7:
                return inRow;
            case 8:
                return letters.count;
            default:
                return NONE;
        }
    }

    // ---- what the calls share ----

    private int refuse(int number) {
        int place = -1 - number;
        put(refusals, place, at(refusals, place) + 1);
        return number;
    }

    private int answerOf(int[] answers, int walker) {
        if (!now.has(walker)) {
            return refuse(NOBODY);
        }
        going.run(now);
        return at(answers, walker);
    }

    private int allLoss(Told told) {
        going.run(told);
        return going.lossOfAll();
    }

    private void runByNever() {
        mind.become(now);
        mind.change(CUSTOM, BY_NEVER);
        going.run(mind);
    }

    /** The least number 0 .. most of a side of the door by which the loss is least. */
    private int leastLossOver(int side, int most) {
        mind.become(now);
        int best = 0;
        int least = 0;
        for (int v = 0; v <= most; v++) {
            mind.change(side, v);
            int loss = allLoss(mind);
            if (v == 0 || loss < least) {
                best = v;
                least = loss;
            }
        }
        return best;
    }

    /** The first refusal that fits a film, in the order in which the document tells them; 0: none. */
    private int refusalOfFilm(int yards, int bags, boolean bitsAreBits) {
        if (yards < 1 || bags < 0) {
            return BELOW;
        }
        if (yards > MOST_YARDS || bags > MOST_BAGS) {
            return ROOM;
        }
        if (!bitsAreBits) {
            return OTHER;
        }
        return films.count >= MOST_FILMS ? ROOM : 0;
    }

    private static boolean isBit(int v) {
        return v == 0 || v == 1;
    }

    private static boolean isCustom(int v) {
        return v >= BY_NEVER && v <= MOST_CUSTOM;
    }

    private static boolean isFilmCustom(int v) {
        return v >= BY_YARDS && v <= BY_BAGS;
    }

    /** Up to how many yards one holds it by a custom that asks for the next one's looks and bags alone. */
    private static int filmUpTo(int custom, int far, int looks, int bags) {
        switch (custom) {
            case BY_YARDS:
                return far;
            case BY_LOOKS:
                return looks == 1 ? far + 4 : far;
            case BY_BAGS:
                return far + 2 * bags;
            default:
                return 0;
        }
    }

    private static int divideUp(int number, int by) {
        return by < 1 ? 0 : (number + by - 1) / by;
    }

    private static int at(int[] row, int i) {
        return i >= 0 && i < row.length ? row[i] : 0;
    }

    private static void put(int[] row, int i, int v) {
        if (i >= 0 && i < row.length) {
            row[i] = v;
        }
    }

    private static void copyRow(int[] from, int[] to) {
        for (int i = 0; i < from.length && i < to.length; i++) {
            to[i] = from[i];
        }
    }

    /** The door, the custom and the walkers, as they are told. */
    private static final class Told {
        private final int[] sides = new int[DOOR_SIDES];
        private final int[] ofWalkers = new int[MOST_WALKERS * WALKER_SIDES];
        private int walkers = 0;

        Told() {
            put(sides, SHUTS, 4);
            put(sides, HEAVY, 2);
            put(sides, WARMTH, 1);
            put(sides, FAR, 5);
            put(sides, CUSTOM, BY_YARDS);
        }

        boolean has(int walker) {
            return walker >= 0 && walker < walkers;
        }

        int door(int side) {
            return side >= 0 && side < sides.length ? sides[side] : 0;
        }

        int change(int side, int v) {
            int was = door(side);
            put(sides, side, v);
            return was;
        }

        int of(int walker, int what) {
            int place = walker * WALKER_SIDES + what;
            return place >= 0 && place < ofWalkers.length ? ofWalkers[place] : 0;
        }

        void tell(int walker, int what, int v) {
            put(ofWalkers, walker * WALKER_SIDES + what, v);
        }

        void addWalker(int[] numbers) {
            if (walkers < MOST_WALKERS) {
                for (int what = 0; what < WALKER_SIDES; what++) {
                    tell(walkers, what, at(numbers, what));
                }
                walkers++;
            }
        }

        /** One walker does not come; those behind him move up, so that their order by number stays. */
        void leaveOut(int walker) {
            if (has(walker)) {
                walkers--;
                for (int i = walker; i < walkers; i++) {
                    for (int what = 0; what < WALKER_SIDES; what++) {
                        tell(i, what, of(i + 1, what));
                    }
                }
            }
        }

        void become(Told other) {
            copyRow(other.sides, sides);
            copyRow(other.ofWalkers, ofWalkers);
            walkers = other.walkers;
        }

        int thereFrom(int walker) {
            return of(walker, START) + divideUp(of(walker, YARDS), of(walker, PACE));
        }

        int yardsHeldFor(int walker) {
            int pace = of(walker, PACE);
            switch (of(walker, KIND)) {
                case RUNNER:
                case UNKIND:
                    return 2 * pace;
                case HURRIED:
                    return 2 * pace + 1;
                case BURDENED:
                    return Math.max(1, pace - of(walker, BAGS));
                default:
                    return pace;
            }
        }

        int yardsToGo(int walker, int second) {
            return of(walker, YARDS) - of(walker, PACE) * (second - of(walker, START));
        }

        int secondsToOpen(int walker) {
            int carded = of(walker, KIND) == CARDED ? 1 : 0;
            return Math.max(0, door(HEAVY) + of(walker, BAGS) - carded);
        }

        /** Up to how many yards one holds it for the next one; held: whether it was held for him. */
        int holdsUpTo(int one, int next, boolean held) {
            if (of(one, KIND) == UNKIND) {
                return 0;
            }
            int far = door(FAR);
            int looks = of(next, LOOKS);
            switch (door(CUSTOM)) {
                case BY_ALWAYS:
                    return MOST_FAR;
                case BY_AS_DONE:
                    return held ? far : 0;
                case BY_WORTHS:
                    return Math.max(0, filmUpTo(BY_LOOKS, far, looks, 0) + of(next, WORTH) - of(one, WORTH));
                default:
                    return filmUpTo(door(CUSTOM), far, looks, of(next, BAGS));
            }
        }
    }

    /** The films that are told. */
    private static final class Films {
        private final int[] yards = new int[MOST_FILMS];
        private final int[] looks = new int[MOST_FILMS];
        private final int[] bags = new int[MOST_FILMS];
        private final int[] held = new int[MOST_FILMS];
        private int count = 0;

        void add(int itsYards, int itsLooks, int itsBags, int itWasHeld) {
            if (count < MOST_FILMS) {
                put(yards, count, itsYards);
                put(looks, count, itsLooks);
                put(bags, count, itsBags);
                put(held, count, itWasHeld);
                count++;
            }
        }

        void become(Films other) {
            copyRow(other.yards, yards);
            copyRow(other.looks, looks);
            copyRow(other.bags, bags);
            copyRow(other.held, held);
            count = other.count;
        }

        boolean allAreSo(int custom, int far) {
            for (int i = 0; i < count; i++) {
                boolean wouldHold = at(yards, i) <= filmUpTo(custom, far, at(looks, i), at(bags, i));
                if (wouldHold != (at(held, i) == 1)) {
                    return false;
                }
            }
            return true;
        }
    }

    /** How it goes, from the first who comes till all are through. */
    private static final class Going {
        private final int[] order = new int[MOST_WALKERS];
        private final int[] comes = new int[MOST_WALKERS];
        private final int[] through = new int[MOST_WALKERS];
        private final int[] opens = new int[MOST_WALKERS];
        private final int[] stands = new int[MOST_WALKERS];
        private final int[] by = new int[MOST_WALKERS];
        private final int[] runs = new int[MOST_WALKERS];
        private final int[] loss = new int[MOST_WALKERS];
        private final int[] thereFrom = new int[MOST_WALKERS];
        private final int[] passed = new int[MOST_WALKERS];
        private int walkers = 0;

        void run(Told told) {
            walkers = told.walkers;
            for (int walker = 0; walker < walkers; walker++) {
                put(thereFrom, walker, told.thereFrom(walker));
                put(passed, walker, 0);
            }
            int ahead = NONE;
            int next = findNext();
            for (int i = 0; i < walkers; i++) {
                int one = next;
                comeThrough(told, ahead, one);
                put(order, i, one);
                put(passed, one, 1);
                next = findNext();
                int seconds = next < 0 ? 0 : secondsHeldFor(told, one, next);
                put(stands, one, seconds);
                put(loss, one, told.of(one, WORTH) * (at(opens, one) + seconds) + at(runs, one));
                ahead = one;
            }
        }

        /** Of those who are not through he who is there first; NONE if all are. */
        private int findNext() {
            int next = NONE;
            int first = 0;
            for (int walker = 0; walker < walkers; walker++) {
                boolean isFirst = next < 0 || at(thereFrom, walker) < first;
                if (at(passed, walker) == 0 && isFirst) {
                    next = walker;
                    first = at(thereFrom, walker);
                }
            }
            return next;
        }

        private void comeThrough(Told told, int ahead, int one) {
            int gone = ahead < 0 ? 0 : goneAt(ahead);
            // Whoever stands, stands for the one who comes next: nobody else can be held for.
            boolean held = ahead >= 0 && at(stands, ahead) > 0;
            int coming = held ? gone : Math.max(at(thereFrom, one), gone);
            boolean standsOpen = ahead >= 0 && coming - gone < told.door(SHUTS);
            int opening = standsOpen ? 0 : told.secondsToOpen(one);
            boolean hurries = held && told.yardsHeldFor(one) > told.of(one, PACE);
            put(comes, one, coming);
            put(opens, one, opening);
            put(through, one, coming + opening);
            put(by, one, held ? ahead : NONE);
            put(runs, one, hurries ? at(stands, ahead) : 0);
        }

        /** How long one who is through stands there for the next one; 0: he lets the door go. */
        private int secondsHeldFor(Told told, int one, int next) {
            int second = at(through, one);
            int yards = told.yardsToGo(next, second);
            if (told.of(next, START) > second || yards <= 0) {
                return 0;
            }
            if (yards > told.holdsUpTo(one, next, at(by, one) >= 0)) {
                return 0;
            }
            return divideUp(yards, told.yardsHeldFor(next));
        }

        int goneAt(int walker) {
            return at(through, walker) + at(stands, walker);
        }

        int lossOfAll() {
            int all = 0;
            for (int walker = 0; walker < walkers; walker++) {
                all += at(loss, walker);
            }
            return all;
        }

        int countHeldFor() {
            int held = 0;
            for (int walker = 0; walker < walkers; walker++) {
                held += at(by, walker) >= 0 ? 1 : 0;
            }
            return held;
        }

        int longestStand() {
            int longest = 0;
            for (int walker = 0; walker < walkers; walker++) {
                longest = Math.max(longest, at(stands, walker));
            }
            return longest;
        }

        /**
         * One who was held for comes at the second in which the door is let go to him: so each one's
         * own seconds, counted once, are the same as those from the first of a chain to its last.
         */
        int openSeconds(int shuts) {
            int seconds = 0;
            int countedTill = 0;
            for (int i = 0; i < walkers; i++) {
                int one = at(order, i);
                int from = Math.max(at(comes, one), countedTill);
                countedTill = goneAt(one) + shuts;
                seconds += countedTill - from;
            }
            return seconds;
        }
    }

    /** The letters of a way, and how they are read. */
    private static final class Letters {
        private final int[] signs = new int[MOST_LETTERS];
        private int count = 0;
        private int place = 0;
        private boolean failed = false;
        /** The numbers of the statement that was read last, in the order in which they are told. */
        private final int[] numbers = new int[WALKER_SIDES];

        void add(int c) {
            put(signs, count, c);
            count++;
        }

        /** The fault of the way, as it is answered; 0: none. */
        int findFault(Told told) {
            begin();
            int walkers = told.walkers;
            int wrong = NONE;
            for (int n = 0; n < MOST_LETTERS && !failed && (n == 0 || place < count); n++) {
                int first = place;
                int sort = readStatement();
                if (wrong < 0 && !isAsItMustBe(sort, walkers)) {
                    wrong = first;
                }
                walkers += sort == 'w' ? 1 : 0;
            }
            if (failed) {
                return -1000 - place;
            }
            return wrong < 0 ? 0 : -2000 - wrong;
        }

        /** All statements of a way without a fault come: how many. */
        int bringInto(Told told) {
            begin();
            int statements = 0;
            for (int n = 0; n < MOST_LETTERS && !failed && place < count; n++) {
                bringStatement(told, readStatement());
                statements++;
            }
            return statements;
        }

        private void begin() {
            place = 0;
            failed = false;
        }

        private void bringStatement(Told told, int sort) {
            if (sort == 'd') {
                told.change(SHUTS, at(numbers, 0));
                told.change(HEAVY, at(numbers, 1));
                told.change(WARMTH, at(numbers, 2));
            } else if (sort == 'c') {
                told.change(CUSTOM, at(numbers, 0));
                told.change(FAR, at(numbers, 1));
            } else {
                told.addWalker(numbers);
            }
        }

        private boolean isAsItMustBe(int sort, int walkers) {
            if (sort == 'd') {
                return at(numbers, 0) >= 1;
            }
            if (sort == 'c') {
                return isCustom(at(numbers, 0)) && at(numbers, 1) <= MOST_FAR;
            }
            return walkers < MOST_WALKERS
                && at(numbers, YARDS) >= 1 && at(numbers, YARDS) <= MOST_YARDS
                && at(numbers, PACE) >= 1 && at(numbers, PACE) <= MOST_PACE
                && at(numbers, BAGS) <= MOST_BAGS
                && isBit(at(numbers, LOOKS));
        }

        /** Reads one statement: its first letter. Where it fails, the place stays at the letter that does not fit. */
        private int readStatement() {
            int sort = here();
            switch (sort) {
                case 'd':
                    place++;
                    readDigits(0, 2);
                    break;
                case 'c':
                    place++;
                    readDigits(0, 0);
                    readNumber(1);
                    break;
                case 'w':
                    place++;
                    readKind();
                    readNumber(START);
                    readSign(',');
                    readNumber(YARDS);
                    readSign(',');
                    readDigits(PACE, WORTH);
                    break;
                default:
                    failed = true;
                    break;
            }
            readSign(';');
            return sort;
        }

        /** The letter at the place; -1 at the end. */
        private int here() {
            return place >= 0 && place < count && place < signs.length ? signs[place] : -1;
        }

        private boolean isDigitHere() {
            return here() >= '0' && here() <= '9';
        }

        private void readKind() {
            int kind = here() < 0 ? -1 : KIND_LETTERS.indexOf((char) here());
            take(kind >= 0);
            put(numbers, KIND, kind);
        }

        private void readSign(char sign) {
            take(here() == sign);
        }

        private void readDigits(int first, int last) {
            for (int i = first; i <= last; i++) {
                put(numbers, i, here() - '0');
                take(isDigitHere());
            }
        }

        /** A number of one digit or two. */
        private void readNumber(int i) {
            readDigits(i, i);
            if (!failed && isDigitHere()) {
                put(numbers, i, at(numbers, i) * 10 + here() - '0');
                place++;
            }
        }

        private void take(boolean fits) {
            if (failed || !fits) {
                failed = true;
            } else {
                place++;
            }
        }
    }
}
