import java.util.function.IntSupplier;

/** Each promise by itself: ordinary numbers worked out by hand, the edges, and the refusals. */
public final class PromiseTest {
    /** PLAIN 0 is there at 5, THROUGH at 7 and sees RUNNER 1 two yards off, who is there at 8. */
    private static final String TWO = "wp0,10,2003;wr0,16,2012;";
    /** One of each kind, pace 3, bags 2 (the order of the letters). */
    private static final String KINDS = "wp0,9,3200;wr0,9,3200;wh0,9,3200;wb0,9,3200;wc0,9,3200;wo0,9,3200;";

    private final Check check = new Check("PromiseTest");

    public static void main(String[] args) {
        PromiseTest test = new PromiseTest();
        test.telling();
        test.goingThrough();
        test.cost();
        test.inMind();
        test.filmsAndSeeds();
        test.rowAndImage();
        test.check.end();
    }

    private void telling() {
        newObject();
        letter();
        way();
        wayFaults();
        wayOutOfRange();
        walker();
        set();
        custom();
        far();
    }

    private void goingThrough() {
        there();
        order();
        comesAndThrough();
        opens();
        stands();
        chain();
        by();
        runs();
        whoIsHeldFor();
    }

    private void cost() {
        loss();
        holdsAndLongest();
        away();
        openAndCoals();
    }

    private void inMind() {
        byOther();
        bestFar();
        bestCustom();
        bestShuts();
        worse();
        followed();
        porter();
        alone();
    }

    private void filmsAndSeeds() {
        film();
        told();
        fitting();
        seeds();
    }

    private void rowAndImage() {
        row();
        judge();
        image();
        on();
        count();
    }

    /** The call answers the refusal; nothing changes but how many of it there were. */
    private void refused(DoorIsHeld x, String call, int number, IntSupplier made) {
        int[] before = counts(x);
        check.due(call, made.getAsInt(), number);
        before[10 - number]++;
        int[] after = counts(x);
        for (int what = 0; what < before.length; what++) {
            check.due("count(" + what + ") behind the refused " + call, after[what], before[what]);
        }
    }

    /** The call answers what is due, and no refusal is counted. */
    private void counted(DoorIsHeld x, String call, int due, IntSupplier made) {
        int[] before = counts(x);
        check.due(call, made.getAsInt(), due);
        int[] after = counts(x);
        for (int what = 11; what <= 16; what++) {
            check.due("count(" + what + ") behind " + call, after[what], before[what]);
        }
    }

    private static int[] counts(DoorIsHeld x) {
        int[] counts = new int[17];
        for (int what = 0; what < counts.length; what++) {
            counts[what] = x.count(what);
        }
        return counts;
    }

    // ---- 1 to 7 ----

    private void newObject() {
        DoorIsHeld x = new DoorIsHeld();
        int[] due = {0, 4, 2, 1, 1, 5, 0, 0, 0, -9, -9, 0, 0, 0, 0, 0, 0};
        int[] counts = counts(x);
        for (int what = 0; what < due.length; what++) {
            check.due("count(" + what + ") of a new object", counts[what], due[what]);
        }
        counted(x, "loss(-1) of nobody", 0, () -> x.loss(-1));
        counted(x, "away() of nobody", -9, x::away);
        counted(x, "open() of nobody", 0, x::open);
        counted(x, "bestShuts() of nobody", 1, x::bestShuts);
        counted(x, "seeds(20, 5) of nobody", 0, () -> x.seeds(20, 5));
        counted(x, "judge() of nobody", -9, x::judge);
    }

    private void letter() {
        DoorIsHeld x = new DoorIsHeld();
        refused(x, "letter(-1)", -4, () -> x.letter(-1));
        refused(x, "letter(min)", -4, () -> x.letter(Integer.MIN_VALUE));
        refused(x, "letter(256)", -6, () -> x.letter(256));
        refused(x, "letter(max)", -6, () -> x.letter(Integer.MAX_VALUE));
        for (int i = 1; i <= 80; i++) {
            check.due("letter " + i, x.letter(i == 1 ? 0 : 255), i);
        }
        refused(x, "letter 81", -6, () -> x.letter(100));
        refused(x, "letter(-1), 80 there", -4, () -> x.letter(-1));
        check.due("count(8)", x.count(8), 80);
        counted(x, "way() of 80 letters", -1000, x::way);
        check.due("count(8) behind way()", x.count(8), 0);
        check.due("letter behind way()", x.letter(100), 1);
    }

    private void way() {
        DoorIsHeld x = new DoorIsHeld();
        check.due("way", Check.tell(x, "d910;c640;wo99,40,4219;"), 3);
        check.due("SHUTS", x.count(1), 9);
        check.due("HEAVY", x.count(2), 1);
        check.due("WARMTH", x.count(3), 0);
        check.due("CUSTOM", x.count(4), 6);
        check.due("FAR", x.count(5), 40);
        check.due("WALKERS", x.count(0), 1);
        check.due("a way more", Check.tell(x, "wp00,01,1000;c01;c002;d100;"), 4);
        check.due("WALKERS, one more", x.count(0), 2);
        check.due("CUSTOM, the last", x.count(4), 0);
        check.due("FAR, the last", x.count(5), 2);
        check.due("START 00", x.walker(1, 1), 0);
        check.due("YARDS 01", x.walker(1, 2), 1);
        check.due("the first one's START", x.walker(0, 1), 99);
    }

    private void wayFaults() {
        String[] texts = {"", "x", ";", "d", "d1", "d11", "d111", "d1111", "d11;", "d1a1;", "c", "c1", "c1;", "c11",
            "c1234;", "c1,2;", "w", "w1", "wq1,1,1000;", "wp", "wp,", "wp1", "wp1;", "wp123", "wp12,123",
            "wp12,12,", "wp12,12,4210", "wp12,12,42109", "wp1,1,1000,", "wp1,1,", "d111;x", "d111; ", "d111;d",
            "d111;;", "D111;", "c15;c15"};
        int[] places = {0, 0, 0, 1, 2, 3, 4, 4, 3, 2, 1, 2, 2, 3,
            4, 2, 1, 1, 1, 2, 2, 3, 3, 4, 7,
            8, 12, 12, 10, 6, 5, 5, 6,
            5, 0, 7};
        for (int i = 0; i < texts.length; i++) {
            DoorIsHeld x = new DoorIsHeld();
            String text = texts[i];
            int place = places[i];
            for (int k = 0; k < text.length(); k++) {
                x.letter(text.charAt(k));
            }
            counted(x, "way() of '" + text + "'", -1000 - place, x::way);
            check.due("letters behind it", x.count(8), 0);
            check.due("SHUTS behind it", x.count(1), 4);
        }
        DoorIsHeld x = new DoorIsHeld();
        check.due("kind 1 before kind 2", Check.tell(x, "d000;c"), -1006);
        check.due("the first of two of kind 2", Check.tell(x, "d000;c70;"), -2000);
        check.due("a full way", Check.tell(x, "d111;c11;"), 2);
        check.due("nothing of the letters ahead is left", Check.tell(x, "d111"), -1004);
    }

    private void wayOutOfRange() {
        String[] bad = {"d011;", "c70;", "c90;", "c141;", "c199;", "wp1,0,1000;", "wp1,00,1000;", "wp1,41,1000;",
            "wp1,99,1000;", "wp1,1,0000;", "wp1,1,5000;", "wp1,1,1300;", "wp1,1,1020;", "wp1,1,1090;"};
        for (String text : bad) {
            DoorIsHeld x = new DoorIsHeld();
            check.due("way of " + text, Check.tell(x, text), -2000);
            check.due("behind d222; way of " + text, Check.tell(x, "d222;wp1,1,1000;" + text), -2016);
            check.due("nothing of it comes: SHUTS", x.count(1), 4);
            check.due("nothing of it comes: WALKERS", x.count(0), 0);
        }
        String[] good = {"d111;", "d199;", "c00;", "c60;", "c140;", "wp0,1,1000;", "wp99,40,4219;"};
        for (String text : good) {
            check.due("way of " + text, Check.tell(new DoorIsHeld(), text), 1);
        }
        DoorIsHeld x = new DoorIsHeld();
        check.due("six walkers", Check.tell(x, KINDS), 6);
        check.due("three more: no room for the third", Check.tell(x, "wp1,1,1000;wp1,1,1000;d011;wp1,1,1000;"), -2022);
        check.due("the third alone", Check.tell(x, "wp1,1,1000;wp1,1,1000;d111;wp1,1,1000;"), -2027);
        check.due("nobody of them came", x.count(0), 6);
        check.due("two more", Check.tell(x, "wp1,1,1000;wp1,1,1000;"), 2);
        check.due("eight", x.count(0), 8);
        check.due("a ninth", Check.tell(x, "d111;wp1,1,1000;"), -2005);
        check.due("doors and customs need no room", Check.tell(x, "d421;c15;d421;c15;"), 4);
        DoorIsHeld y = Check.doorOf(KINDS);
        check.due("room for two, whatever else is told", Check.tell(y, "d421;c15;wp1,1,1000;d421;wp1,1,1000;"), 5);
        check.due("no refusal", x.count(16), 0);
    }

    private void walker() {
        DoorIsHeld x = Check.doorOf(KINDS + "wb12,34,2109;");
        int[] heldFor = {3, 6, 7, 1, 3, 6, 1};
        for (int w = 0; w < heldFor.length; w++) {
            check.due("walker(" + w + ", 0)", x.walker(w, 0), w < 6 ? w : 3);
            check.due("walker(" + w + ", 7)", x.walker(w, 7), heldFor[w]);
        }
        int[] told = {3, 12, 34, 2, 1, 0, 9, 1};
        for (int what = 0; what < told.length; what++) {
            check.due("walker(6, " + what + ")", x.walker(6, what), told[what]);
        }
        check.due("BURDENED with fewer bags", Check.doorOf("wb0,1,4100;").walker(0, 7), 3);
        check.due("BURDENED, 1 at least", Check.doorOf("wb0,1,1200;").walker(0, 7), 1);
        refused(x, "walker(7, 0)", -1, () -> x.walker(7, 0));
        refused(x, "walker(-1, 8)", -1, () -> x.walker(-1, 8));
        refused(x, "walker(min, 0)", -1, () -> x.walker(Integer.MIN_VALUE, 0));
        refused(x, "walker(max, 0)", -1, () -> x.walker(Integer.MAX_VALUE, 0));
        refused(x, "walker(0, 8)", -2, () -> x.walker(0, 8));
        refused(x, "walker(0, -1)", -2, () -> x.walker(0, -1));
    }

    private void set() {
        DoorIsHeld x = new DoorIsHeld();
        counted(x, "set(0, 1)", 4, () -> x.set(0, 1));
        counted(x, "set(0, 9)", 1, () -> x.set(0, 9));
        counted(x, "set(1, 0)", 2, () -> x.set(1, 0));
        counted(x, "set(1, 9)", 0, () -> x.set(1, 9));
        counted(x, "set(2, 0)", 1, () -> x.set(2, 0));
        counted(x, "set(2, 9)", 0, () -> x.set(2, 9));
        counted(x, "set(3, 0)", 5, () -> x.set(3, 0));
        counted(x, "set(3, 40)", 0, () -> x.set(3, 40));
        int[] due = {9, 9, 9, 1, 40};
        for (int i = 0; i < due.length; i++) {
            check.due("count(" + (i + 1) + ")", x.count(i + 1), due[i]);
        }
        refused(x, "set(-1, 1)", -2, () -> x.set(-1, 1));
        refused(x, "set(4, -1)", -2, () -> x.set(4, -1));
        refused(x, "set(0, 0)", -4, () -> x.set(0, 0));
        refused(x, "set(0, 10)", -6, () -> x.set(0, 10));
        for (int what = 1; what <= 3; what++) {
            int w = what;
            refused(x, "set(" + what + ", -1)", -4, () -> x.set(w, -1));
            refused(x, "set(" + what + ", 41)", -6, () -> x.set(w, w == 3 ? 41 : 10));
        }
    }

    private void custom() {
        DoorIsHeld x = new DoorIsHeld();
        int was = 1;
        for (int v = 6; v >= 0; v--) {
            int due = was;
            int to = v;
            counted(x, "custom(" + v + ")", due, () -> x.custom(to));
            check.due("count(4)", x.count(4), v);
            was = v;
        }
        refused(x, "custom(7)", -2, () -> x.custom(7));
        refused(x, "custom(-1)", -2, () -> x.custom(-1));
    }

    private void far() {
        // 0 worth 5; 1 looks, bags 2, worth 3; 2 OTHER, worth 9.
        DoorIsHeld x = Check.doorOf("wp0,9,1005;wp0,9,1213;wo0,9,1109;");
        int[][] due = {
            {0, 0, 0, 0, 0},
            {5, 5, 5, 5, 0},
            {9, 9, 5, 5, 0},
            {9, 9, 5, 7, 0},
            {40, 40, 40, 40, 0},
            {0, 5, 0, 0, 0},
            {7, 7, 7, 11, 0}};
        for (int custom = 0; custom <= 6; custom++) {
            x.custom(custom);
            check.due("far(0, 1, 0) by " + custom, x.far(0, 1, 0), due[custom][0]);
            check.due("far(0, 1, 1) by " + custom, x.far(0, 1, 1), due[custom][1]);
            check.due("far(1, 0, 0) by " + custom, x.far(1, 0, 0), due[custom][2]);
            check.due("far(1, 2, 0) by " + custom, x.far(1, 2, 0), due[custom][3]);
            check.due("far(2, 1, 1) by " + custom, x.far(2, 1, 1), due[custom][4]);
        }
        x.set(3, 40);
        check.due("above 40 by WORTHS", x.far(1, 2, 0), 46);
        x.set(3, 0);
        check.due("FAR 0 by WORTHS", x.far(0, 1, 0), 2);
        DoorIsHeld y = Check.doorOf("c61;wp0,9,1009;wp0,9,1000;");
        check.due("0 at least by WORTHS", y.far(0, 1, 0), 0);
        refused(x, "far(0, 0, 2)", -1, () -> x.far(0, 0, 2));
        refused(x, "far(3, 0, 0)", -1, () -> x.far(3, 0, 0));
        refused(x, "far(0, 3, 0)", -1, () -> x.far(0, 3, 0));
        refused(x, "far(-1, 0, 0)", -1, () -> x.far(-1, 0, 0));
        refused(x, "far(0, -1, 5)", -1, () -> x.far(0, -1, 5));
        refused(x, "far(0, 1, 2)", -2, () -> x.far(0, 1, 2));
        refused(x, "far(0, 1, -1)", -2, () -> x.far(0, 1, -1));
    }

    // ---- 8 to 15 ----

    private void nobodyFits(DoorIsHeld x, int walker) {
        refused(x, "there", -1, () -> x.there(walker));
        refused(x, "comes", -1, () -> x.comes(walker));
        refused(x, "through", -1, () -> x.through(walker));
        refused(x, "opens", -1, () -> x.opens(walker));
        refused(x, "stands", -1, () -> x.stands(walker));
        refused(x, "by", -1, () -> x.by(walker));
        refused(x, "runs", -1, () -> x.runs(walker));
        refused(x, "alone", -1, () -> x.alone(walker));
        if (walker != -1) {
            refused(x, "loss", -1, () -> x.loss(walker));
        }
    }

    private void there() {
        DoorIsHeld x = Check.doorOf("wp0,1,1000;wp3,7,2000;wp99,40,1000;wp0,8,4000;wp0,9,4000;wp5,40,3000;");
        int[] due = {1, 7, 139, 2, 3, 19};
        for (int w = 0; w < due.length; w++) {
            int walker = w;
            counted(x, "there(" + w + ")", due[w], () -> x.there(walker));
        }
        for (int walker : new int[] {Integer.MIN_VALUE, -2, -1, 6, 7, 8, Integer.MAX_VALUE}) {
            nobodyFits(x, walker);
        }
        nobodyFits(new DoorIsHeld(), 0);
    }

    private void order() {
        // There at 4, 2, 4, 1.
        DoorIsHeld x = Check.doorOf("c00;wp0,4,1000;wp0,2,1000;wp2,4,2000;wp0,4,4000;");
        int[] due = {3, 1, 0, 2, -9, -9};
        for (int i = 0; i < due.length; i++) {
            int place = i;
            counted(x, "order(" + i + ")", due[i], () -> x.order(place));
        }
        counted(x, "order(max)", -9, () -> x.order(Integer.MAX_VALUE));
        refused(x, "order(-1)", -4, () -> x.order(-1));
        // 1 is held for and so is THROUGH ahead of his own time, but not ahead of his turn.
        check.due("order by turn", Check.doorOf("c440;wp0,1,1000;wr0,40,1000;wp0,30,1000;").order(1), 2);
    }

    private void comesAndThrough() {
        DoorIsHeld x = Check.doorOf("c00;wp0,4,1000;wp0,5,1100;wp0,20,1200;");
        int[] comes = {4, 6, 20};
        int[] through = {6, 6, 24};
        for (int w = 0; w < 3; w++) {
            check.due("comes(" + w + ")", x.comes(w), comes[w]);
            check.due("through(" + w + ")", x.through(w), through[w]);
        }
        DoorIsHeld held = Check.doorOf(TWO);
        check.due("comes, held for", held.comes(1), 8);
        check.due("through, held for", held.through(1), 8);
        // For the BURDENED one with his bags it takes longer than he would have needed alone.
        DoorIsHeld slow = Check.doorOf("c140;wp0,1,1000;wb0,40,4200;wp0,11,1000;");
        check.due("stands for the BURDENED", slow.stands(0), 14);
        check.due("comes(1)", slow.comes(1), 17);
        check.due("who waits COMES when the one ahead is GONE", slow.comes(2), 17);
    }

    private void opens() {
        DoorIsHeld x = Check.doorOf("c00;d423;wp0,4,1000;wp0,9,1000;wp0,12,1000;wp0,18,1200;wc0,30,1200;");
        int[] due = {2, 0, 0, 4, 3};
        int[] comes = {4, 9, 12, 18, 30};
        for (int w = 0; w < due.length; w++) {
            check.due("opens(" + w + ")", x.opens(w), due[w]);
            check.due("comes(" + w + ")", x.comes(w), comes[w]);
        }
        // GONE at 6: at 9 it stands open, at 10 it has shut.
        check.due("3 seconds behind", Check.doorOf("c00;wp0,4,1000;wp0,9,1000;").opens(1), 0);
        check.due("4 seconds behind", Check.doorOf("c00;wp0,4,1000;wp0,10,1000;").opens(1), 2);
        check.due("nobody ahead: it has shut", Check.doorOf("d920;wp0,1,1000;").opens(0), 2);
        check.due("CARDED, 0 at least", Check.doorOf("d100;wc0,1,1000;").opens(0), 0);
        check.due("CARDED, heavy 0, a bag", Check.doorOf("d100;wc0,1,1100;").opens(0), 0);
        check.due("the heaviest", Check.doorOf("d190;wp0,1,1200;").opens(0), 11);
    }

    private void stands() {
        DoorIsHeld x = Check.doorOf(TWO);
        check.due("stands(0)", x.stands(0), 1);
        check.due("stands(1)", x.stands(1), 0);
        // THROUGH at 3; 37 yards to go.
        String slow = "wp0,1,1000;wp0,40,1000;";
        check.due("for 37 yards", Check.doorOf("c137;" + slow).stands(0), 37);
        check.due("not more than FAR", Check.doorOf("c136;" + slow).stands(0), 0);
        check.due("ALWAYS", Check.doorOf("c40;" + slow).stands(0), 37);
        check.due("NEVER", Check.doorOf("c040;" + slow).stands(0), 0);
        check.due("AS DONE", Check.doorOf("c540;" + slow).stands(0), 0);
        check.due("he has not set out", Check.doorOf("c40;wp0,1,1000;wp4,9,1000;").stands(0), 0);
        check.due("he sets out just then", Check.doorOf("c40;wp0,1,1000;wp3,9,1000;").stands(0), 9);
        check.due("he is just there", Check.doorOf("c40;wp0,1,1000;wp0,3,1000;").stands(0), 0);
        check.due("a yard off", Check.doorOf("c40;wp0,1,1000;wp0,4,1000;").stands(0), 1);
        check.due("OTHER holds it for nobody", Check.doorOf("c40;wo0,1,1000;wp0,4,1000;").stands(0), 0);
        check.due("for OTHER it is held", Check.doorOf("c40;wp0,1,1000;wo0,4,1000;").stands(0), 1);
        check.due("HURRIED, 22 yards by 7", Check.doorOf("c40;wp0,1,1000;wh2,25,3000;").stands(0), 4);
        check.due("HURRIED, 21 yards by 7", Check.doorOf("c40;wp0,1,1000;wh2,24,3000;").stands(0), 3);
    }

    /** 0 holds it for 1, 1 for 2, 2 lets it go: 3 is too far off. */
    private void chain() {
        DoorIsHeld x = Check.doorOf("c112;wp0,2,1001;wr0,12,1002;wr0,20,1003;wp0,40,1004;");
        int[] comes = {2, 8, 14, 40};
        int[] through = {4, 8, 14, 42};
        int[] stands = {4, 6, 0, 0};
        int[] by = {-9, 0, 1, -9};
        int[] runs = {0, 4, 6, 0};
        int[] loss = {6, 16, 6, 8};
        for (int w = 0; w < 4; w++) {
            check.due("chain, comes(" + w + ")", x.comes(w), w == 1 || w == 2 ? through[w] : comes[w]);
            check.due("chain, through(" + w + ")", x.through(w), through[w]);
            check.due("chain, stands(" + w + ")", x.stands(w), stands[w]);
            check.due("chain, by(" + w + ")", x.by(w), by[w]);
            check.due("chain, runs(" + w + ")", x.runs(w), runs[w]);
            check.due("chain, loss(" + w + ")", x.loss(w), loss[w]);
        }
        x.set(3, 11);
        check.due("12 yards off at 8", x.stands(1), 0);
        x.set(3, 12);
        check.due("12 yards off at 8, FAR 12", x.stands(1), 6);
    }

    private void by() {
        DoorIsHeld x = Check.doorOf(TWO);
        counted(x, "by(0)", -9, () -> x.by(0));
        counted(x, "by(1)", 0, () -> x.by(1));
        DoorIsHeld other = Check.doorOf("c40;wp9,9,1000;wp0,4,1000;");
        check.due("by the greater number", other.by(0), -9);
        x.custom(0);
        check.due("by(1), NEVER", x.by(1), -9);
    }

    private void runs() {
        // Each is four yards off when 0 is THROUGH at 3.
        String[] next = {"wp3,4,3000;", "wr3,4,3000;", "wh3,4,3000;", "wb3,4,3200;", "wc3,4,3000;", "wo3,4,3000;"};
        int[] stands = {2, 1, 1, 4, 2, 1};
        int[] runs = {0, 1, 1, 0, 0, 1};
        for (int kind = 0; kind < 6; kind++) {
            DoorIsHeld x = Check.doorOf("wp0,1,1000;" + next[kind]);
            check.due("stands for " + next[kind], x.stands(0), stands[kind]);
            check.due("runs " + next[kind], x.runs(1), runs[kind]);
            check.due("the first does not run", x.runs(0), 0);
        }
        DoorIsHeld x = Check.doorOf("c00;wp0,1,1000;wr3,4,3000;");
        check.due("nobody held it", x.runs(1), 0);
    }

    /** The next one is he who is there first, wherever he stands among the numbers. */
    private void whoIsHeldFor() {
        DoorIsHeld x = Check.doorOf("c40;wp0,20,1000;wp0,9,1000;wp0,1,1000;wp0,9,1000;");
        check.due("by(1)", x.by(1), 2);
        check.due("by(3): he is there at 9, too", x.by(3), -9);
        check.due("by(0)", x.by(0), 3);
        // 1 (worth 9) looks at 0 (worth 0): 5 less 9; 0 holds it for 2.
        DoorIsHeld worths = Check.doorOf("c65;wp0,9,1000;wp0,1,1009;wp0,12,1005;");
        check.due("WORTHS: too far", worths.by(0), -9);
        check.due("WORTHS: near enough", worths.by(2), 0);
        DoorIsHeld looks = Check.doorOf("c22;wp0,1,1000;wp0,9,1010;");
        check.due("LOOKS: 6 yards by 2 and 4", looks.by(1), 0);
        looks.set(3, 1);
        check.due("LOOKS: 6 yards by 1 and 4", looks.by(1), -9);
        DoorIsHeld bags = Check.doorOf("c32;wp0,1,1000;wp0,9,1200;");
        check.due("BAGS: 6 yards by 2 and 4", bags.by(1), 0);
        bags.set(3, 1);
        check.due("BAGS: 6 yards by 1 and 4", bags.by(1), -9);
    }

    // ---- 16 to 21 ----

    private void loss() {
        DoorIsHeld x = Check.doorOf(TWO);
        counted(x, "loss(0)", 9, () -> x.loss(0));
        counted(x, "loss(1)", 1, () -> x.loss(1));
        counted(x, "loss(-1)", 10, () -> x.loss(-1));
        refused(x, "loss(2)", -1, () -> x.loss(2));
        refused(x, "loss(-2)", -1, () -> x.loss(-2));
        refused(x, "loss(min)", -1, () -> x.loss(Integer.MIN_VALUE));
    }

    private void holdsAndLongest() {
        DoorIsHeld x = Check.doorOf("c112;wp0,2,1001;wr0,12,1002;wr0,20,1003;wp0,40,1004;");
        counted(x, "holds()", 2, x::holds);
        counted(x, "longest()", 6, x::longest);
        x.custom(4);
        check.due("holds(), ALWAYS", x.holds(), 3);
        check.due("longest(), ALWAYS", x.longest(), 26);
        DoorIsHeld other = Check.doorOf("c40;wp0,9,1000;wp0,1,1000;wo10,9,1000;");
        check.due("holds() for the first by number", other.holds(), 1);
        check.due("longest() of the second", other.longest(), 6);
        x.custom(0);
        check.due("holds(), NEVER", x.holds(), 0);
        check.due("longest(), NEVER", x.longest(), 0);
        check.due("longest() of the first", Check.doorOf("c40;wp0,1,1000;wp0,9,1000;").longest(), 6);
    }

    private void away() {
        DoorIsHeld x = Check.doorOf("wr0,16,2012;wp0,10,2003;");
        counted(x, "away()", 8, x::away);
        x.custom(0);
        counted(x, "away(), NEVER", 7, x::away);
        DoorIsHeld nobody = new DoorIsHeld();
        counted(nobody, "away() of nobody", -9, nobody::away);
    }

    private void openAndCoals() {
        DoorIsHeld x = Check.doorOf(TWO);
        counted(x, "open()", 7, x::open);
        counted(x, "coals()", 7, x::coals);
        x.set(2, 9);
        counted(x, "coals(), WARMTH 9", 63, x::coals);
        x.set(2, 0);
        counted(x, "coals(), WARMTH 0", 0, x::coals);
        // 0 from 4 till 10; 1 comes at 9: till 13, each second once.
        check.due("each second once", Check.doorOf("c00;wp0,4,1000;wp0,9,1000;").open(), 9);
        // 1 comes at 10, just when it has shut: from 4 till 10, from 10 till 16.
        check.due("one behind the other", Check.doorOf("c00;wp0,4,1000;wp0,10,1000;").open(), 12);
        check.due("with a gap", Check.doorOf("c00;wp0,4,1000;wp0,30,1000;").open(), 12);
        // From 2 till 14 and 4 seconds, then from 40 till 46.
        check.due("a chain", Check.doorOf("c112;wp0,2,1001;wr0,12,1002;wr0,20,1003;wp0,40,1004;").open(), 22);
    }

    // ---- 22 to 29 ----

    private void byOther() {
        DoorIsHeld x = Check.doorOf(TWO);
        int[] due = {6, 10, 10, 10, 10, 6, 10};
        for (int custom = 0; custom <= 6; custom++) {
            int c = custom;
            counted(x, "byOther(" + c + ", 5)", due[c], () -> x.byOther(c, 5));
        }
        check.due("byOther(1, 1): 2 yards off", x.byOther(1, 1), 6);
        check.due("byOther(1, 2)", x.byOther(1, 2), 10);
        check.due("byOther(1, 40)", x.byOther(1, 40), 10);
        check.due("byOther(2, 0): he LOOKS", x.byOther(2, 0), 10);
        check.due("CUSTOM as it was", x.count(4), 1);
        check.due("FAR as it was", x.count(5), 5);
        refused(x, "byOther(7, -1)", -2, () -> x.byOther(7, -1));
        refused(x, "byOther(-1, 41)", -2, () -> x.byOther(-1, 41));
        refused(x, "byOther(0, -1)", -4, () -> x.byOther(0, -1));
        refused(x, "byOther(6, 41)", -6, () -> x.byOther(6, 41));
    }

    /** Who holds it for one of worth 9 saves him 4 seconds of opening: 36 for 12. */
    private void bestFar() {
        DoorIsHeld x = Check.doorOf("d220;c10;wp0,1,1001;wp0,15,1209;");
        check.due("loss by 0", x.loss(-1), 38);
        counted(x, "bestFar()", 12, x::bestFar);
        check.due("loss by 12", x.byOther(1, 12), 14);
        check.due("FAR as it was", x.count(5), 0);
        x.custom(3);
        check.due("bestFar() by BAGS", x.bestFar(), 8);
        x.custom(4);
        check.due("bestFar() by ALWAYS", x.bestFar(), 0);
        check.due("bestFar() of two who lose by it", Check.doorOf(TWO).bestFar(), 0);
        check.due("the greatest", Check.doorOf("d190;wp0,1,1001;wp10,40,1209;").bestFar(), 40);
    }

    private void bestCustom() {
        DoorIsHeld x = Check.doorOf("d220;c212;wp0,1,1001;wp0,15,1209;");
        counted(x, "bestCustom(), FAR 12", 1, x::bestCustom);
        check.due("CUSTOM as it was", x.count(4), 2);
        x.set(3, 8);
        check.due("bestCustom(), FAR 8: BAGS", x.bestCustom(), 3);
        x.set(3, 7);
        check.due("bestCustom(), FAR 7: ALWAYS", x.bestCustom(), 4);
        x.set(3, 0);
        check.due("bestCustom() of two who lose by it", Check.doorOf(TWO).bestCustom(), 0);
        // By ALWAYS the second, worth 9, would stand for the third: by WORTHS he does not.
        check.due("bestCustom(): WORTHS", Check.doorOf("d220;c05;wp0,1,1001;wp0,15,1209;wp9,40,1000;").bestCustom(), 6);
        // LOOKS alone reaches the second, who has no bags, and not the third, who costs more than he saves.
        DoorIsHeld y = Check.doorOf("d190;c06;wp0,1,1001;wp0,20,1019;wp9,40,1000;");
        check.due("bestCustom(): LOOKS", y.bestCustom(), 2);
    }

    private void bestShuts() {
        // 1 comes 3 behind: SHUTS 4 saves him 2 times 9; each second more costs a coal or two.
        DoorIsHeld x = Check.doorOf("c00;d121;wp0,4,1000;wp0,9,1009;");
        counted(x, "bestShuts()", 4, x::bestShuts);
        check.due("SHUTS as it was", x.count(1), 1);
        x.set(2, 9);
        check.due("bestShuts(), coals dear", x.bestShuts(), 1);
        x.set(2, 0);
        check.due("bestShuts(), coals free", x.bestShuts(), 4);
        check.due("the greatest", Check.doorOf("c00;d190;wp0,4,1000;wp0,21,1009;").bestShuts(), 9);
        check.due("nobody can save any", Check.doorOf("c00;d590;wp0,4,1000;wp0,22,1009;").bestShuts(), 1);
    }

    private void worse() {
        DoorIsHeld x = Check.doorOf(TWO);
        counted(x, "worse()", 3, x::worse);
        x.custom(0);
        counted(x, "worse(), NEVER", 0, x::worse);
        // 0 stands 12 seconds, 1 saves 4 seconds of opening.
        check.due("only the one who stands", Check.doorOf("d220;c112;wp0,1,1001;wp0,15,1209;").worse(), 1);
        check.due("the eighth's bit", eighth("wp90,40,1001;wp90,3,1001;").worse(), 128);
    }

    /** Eight walkers, the last two as told; the six ahead come long before and cost nothing. */
    private DoorIsHeld eighth(String lastTwo) {
        DoorIsHeld x = Check.doorOf("c40;wp0,1,1000;wp9,1,1000;wp18,1,1000;wp27,1,1000;wp36,1,1000;");
        Check.tell(x, "wp45,1,1000;" + lastTwo);
        check.due("eight walkers", x.count(0), 8);
        return x;
    }

    private void followed() {
        DoorIsHeld x = Check.doorOf(TWO);
        counted(x, "followed()", 2, x::followed);
        check.due("CARDED ones do not follow", Check.doorOf("c00;wp0,4,1000;wc0,5,1000;wp0,6,1000;").followed(), 4);
        check.due("a door of no weight", Check.doorOf("d100;wp0,4,1000;wc0,5,1000;").followed(), 1);
        check.due("the eighth's bit", eighth("wp90,1,1001;wp90,3,1001;").followed(), 128);
    }

    private void porter() {
        DoorIsHeld x = Check.doorOf(TWO);
        counted(x, "porter()", 6, x::porter);
        check.due("CUSTOM as it was", x.count(4), 1);
        x.custom(0);
        check.due("porter(), NEVER", x.porter(), 6);
        check.due("loss as it was", Check.doorOf("d190;wp0,1,1209;").porter(), 99);
    }

    private void alone() {
        DoorIsHeld x = Check.doorOf(TWO);
        counted(x, "alone(0)", 4, () -> x.alone(0));
        counted(x, "alone(1)", 6, () -> x.alone(1));
        check.due("all are there as before", x.count(0), 2);
        check.due("loss as before", x.loss(-1), 10);
        refused(x, "alone(2)", -1, () -> x.alone(2));
        refused(x, "alone(-1)", -1, () -> x.alone(-1));
        // Without 1 the first holds it for 2.
        DoorIsHeld three = Check.doorOf("c15;wo0,1,1001;wp0,3,1001;wp0,8,1001;");
        check.due("alone(0)", three.alone(0), 5);
        check.due("alone(1)", three.alone(1), 4);
        check.due("alone(2)", three.alone(2), 2);
        check.due("the last of eight", eighth("wp90,3,1001;wp90,40,1001;").alone(7), 2);
    }

    // ---- 30 to 33 ----

    private void film() {
        DoorIsHeld x = new DoorIsHeld();
        counted(x, "film(1, 0, 0, 0)", 1, () -> x.film(1, 0, 0, 0));
        counted(x, "film(40, 1, 2, 1)", 2, () -> x.film(40, 1, 2, 1));
        for (int round = 0; round < 2; round++) {
            refused(x, "film(0, 2, 3, 2)", -4, () -> x.film(0, 2, 3, 2));
            refused(x, "film(41, 2, -1, 2)", -4, () -> x.film(41, 2, -1, 2));
            refused(x, "film(41, 2, 0, 2)", -6, () -> x.film(41, 2, 0, 2));
            refused(x, "film(1, 2, 3, 2)", -6, () -> x.film(1, 2, 3, 2));
            refused(x, "film(1, 2, 0, 0)", -2, () -> x.film(1, 2, 0, 0));
            refused(x, "film(1, -1, 0, 0)", -2, () -> x.film(1, -1, 0, 0));
            refused(x, "film(1, 0, 0, 2)", -2, () -> x.film(1, 0, 0, 2));
            refused(x, "film(1, 0, 0, -1)", -2, () -> x.film(1, 0, 0, -1));
            for (int i = x.count(6); i < 10; i++) {
                check.due("film " + i, x.film(9, 0, 0, 1), i + 1);
            }
            refused(x, "film 11", -6, () -> x.film(9, 0, 0, 1));
        }
    }

    private void told() {
        DoorIsHeld x = new DoorIsHeld();
        counted(x, "told(5, 1, 2) by YARDS 5", 1, () -> x.told(5, 1, 2));
        counted(x, "told(6, 1, 2) by YARDS 5", 0, () -> x.told(6, 1, 2));
        check.due("fitting the least", x.fitting(1, 1), 5);
        check.due("fitting the greatest", x.fitting(1, 2), 5);
        x.custom(2);
        check.due("told(9, 1, 2) by LOOKS 5", x.told(9, 1, 2), 1);
        check.due("told(10, 1, 2) by LOOKS 5", x.told(10, 1, 2), 0);
        check.due("told(6, 0, 2) by LOOKS 5", x.told(6, 0, 2), 0);
        x.custom(3);
        check.due("told(9, 0, 2) by BAGS 5", x.told(9, 0, 2), 1);
        check.due("told(7, 0, 1) by BAGS 5", x.told(7, 0, 1), 1);
        check.due("told(8, 1, 1) by BAGS 5", x.told(8, 1, 1), 0);
        check.due("films", x.count(6), 8);
        for (int custom : new int[] {0, 4, 5, 6}) {
            x.custom(custom);
            refused(x, "told by " + custom, -3, () -> x.told(1, 0, 0));
            refused(x, "told(0, 2, 3) by " + custom, -4, () -> x.told(0, 2, 3));
            refused(x, "told(1, 2, 3) by " + custom, -6, () -> x.told(1, 2, 3));
            refused(x, "told(1, 2, 2) by " + custom, -2, () -> x.told(1, 2, 2));
        }
        x.custom(1);
        x.told(1, 0, 0);
        x.told(1, 0, 0);
        refused(x, "told, 10 films", -6, () -> x.told(1, 0, 0));
        refused(x, "told(41, 0, 0)", -6, () -> x.told(41, 0, 0));
        refused(x, "told(1, 0, -1)", -4, () -> x.told(1, 0, -1));
        refused(x, "told(1, -1, 0), 10 films", -2, () -> x.told(1, -1, 0));
        x.custom(0);
        refused(x, "told, 10 films, NEVER", -6, () -> x.told(1, 0, 0));
    }

    private void fitting() {
        DoorIsHeld x = new DoorIsHeld();
        for (int custom = 1; custom <= 3; custom++) {
            check.due("no films: how many", x.fitting(custom, 0), 41);
            check.due("no films: the least", x.fitting(custom, 1), 0);
            check.due("no films: the greatest", x.fitting(custom, 2), 40);
        }
        x.film(10, 1, 2, 1);
        x.film(20, 0, 0, 0);
        int[] least = {0, 10, 6, 6};
        for (int custom = 1; custom <= 3; custom++) {
            check.due("the least by " + custom, x.fitting(custom, 1), least[custom]);
            check.due("the greatest by " + custom, x.fitting(custom, 2), 19);
            check.due("how many by " + custom, x.fitting(custom, 0), 20 - least[custom]);
        }
        x.film(9, 0, 0, 0);
        check.due("by YARDS none", x.fitting(1, 0), 0);
        check.due("by YARDS no least", x.fitting(1, 1), -9);
        check.due("by YARDS no greatest", x.fitting(1, 2), -9);
        check.due("by LOOKS", x.fitting(2, 0), 3);
        check.due("by LOOKS the greatest", x.fitting(2, 2), 8);
        check.due("films as they were", x.count(6), 3);
        for (int custom : new int[] {Integer.MIN_VALUE, -1, 0, 4, 5, 6, 7}) {
            refused(x, "fitting(" + custom + ", 0)", -2, () -> x.fitting(custom, 0));
        }
        refused(x, "fitting(1, 3)", -2, () -> x.fitting(1, 3));
        refused(x, "fitting(1, -1)", -2, () -> x.fitting(1, -1));
    }

    private void seeds() {
        // 1 is six yards off when 0 is THROUGH: by 2 and 4 it is held, if he LOOKS.
        DoorIsHeld x = Check.doorOf("c22;wp0,1,1010;wp0,9,1000;");
        // z 0: 1013904223, by 256 3960563 (odd); then 1196435762, by 256 4673577 (odd): he looks.
        counted(x, "seeds(1, 0)", 1, () -> x.seeds(1, 0));
        int held = 0;
        long z = 12345;
        for (int n = 1; n <= 20; n++) {
            for (int w = 0; w < 2; w++) {
                z = (z * 1664525 + 1013904223) & 0xffffffffL;
                held += w == 1 ? (int) ((z & 0x7fffffffL) / 256 % 2) : 0;
            }
            check.due("seeds(" + n + ", 12345)", x.seeds(n, 12345), held);
        }
        check.due("LOOKS as told", x.walker(0, 5), 1);
        check.due("LOOKS as told", x.walker(1, 5), 0);
        x.custom(4);
        check.due("seeds(20, -1), ALWAYS", x.seeds(20, -1), 20);
        refused(x, "seeds(0, 0)", -4, () -> x.seeds(0, 0));
        refused(x, "seeds(min, 0)", -4, () -> x.seeds(Integer.MIN_VALUE, 0));
        refused(x, "seeds(21, 0)", -6, () -> x.seeds(21, 0));
    }

    // ---- 34 to 38 ----

    private void row() {
        DoorIsHeld x = new DoorIsHeld();
        refused(x, "row(-1)", -4, () -> x.row(-1));
        refused(x, "row(10)", -6, () -> x.row(10));
        for (int i = 1; i <= 8; i++) {
            int v = i == 1 ? 0 : 9;
            int due = i;
            counted(x, "row " + i, due, () -> x.row(v));
            check.due("count(7)", x.count(7), i);
        }
        refused(x, "row, 8 there", -6, () -> x.row(0));
        refused(x, "row(-1), 8 there", -4, () -> x.row(-1));
    }

    private void judged(DoorIsHeld x, int due, int... numbers) {
        for (int v : numbers) {
            x.row(v);
        }
        counted(x, "judge()", due, x::judge);
        check.due("the row has none then", x.count(7), 0);
    }

    private void judge() {
        DoorIsHeld x = Check.doorOf("c00;wp0,4,1000;wp0,2,1000;wp2,4,2000;wp0,4,4000;");
        judged(x, -9, 3, 1, 0, 2);
        judged(x, 0);
        judged(x, 0, 1, 3, 0, 2);
        judged(x, 0, 9);
        judged(x, 2, 3, 1, 2, 0);
        judged(x, 2, 3, 1, 2, 0, 7, 7);
        judged(x, 3, 3, 1, 0);
        judged(x, 3, 3, 1, 0, 1);
        judged(x, 4, 3, 1, 0, 2, 3);
        judged(x, 4, 3, 1, 0, 2, 0, 0, 0, 0);
        judged(x, -9, 3, 1, 0, 2);
        judged(new DoorIsHeld(), 0, 0);
        judged(new DoorIsHeld(), -9);
    }

    private void image() {
        DoorIsHeld x = Check.doorOf(TWO);
        counted(x, "image()", 2, x::image);
        Check.tell(x, "wp1,1,1000;");
        counted(x, "image() again", 3, x::image);
        x.on();
        check.due("the last image", x.count(0), 3);
    }

    private void on() {
        DoorIsHeld x = Check.doorOf(TWO);
        refused(x, "on() without an image", -3, x::on);
        x.film(7, 1, 1, 1);
        x.row(1);
        x.letter('d');
        x.image();
        Check.tell(x, "111;c000;wp1,1,1000;");
        x.film(3, 0, 0, 0);
        x.row(2);
        x.letter('c');
        x.letter('1');
        refused(x, "custom(9)", -2, () -> x.custom(9));
        counted(x, "on()", 2, x::on);
        int[] due = {2, 4, 2, 1, 1, 5, 1, 2, 2};
        for (int what = 0; what < due.length; what++) {
            check.due("count(" + what + ") behind on()", x.count(what), due[what]);
        }
        check.due("refusals stay", x.count(12), 1);
        check.due("loss behind on()", x.loss(-1), 10);
        check.due("films behind on()", x.fitting(1, 1), 7);
        x.letter('0');
        x.letter(';');
        check.due("letters stay", x.way(), 1);
        x.set(0, 9);
        Check.tell(x, "wp1,1,1000;");
        check.due("on() once more", x.on(), 2);
        check.due("SHUTS behind it", x.count(1), 4);
        fewerBehind();
        DoorIsHeld empty = new DoorIsHeld();
        empty.image();
        Check.tell(empty, TWO);
        check.due("on() from nobody", empty.on(), 0);
        check.due("nobody then", empty.away(), -9);
    }

    /** Those who are there no more leave nothing in what is asked of all. */
    private void fewerBehind() {
        DoorIsHeld x = Check.doorOf("c40;wp0,1,1009;");
        x.image();
        Check.tell(x, "wp0,9,1009;wp0,40,1009;");
        check.due("holds() of three", x.holds(), 2);
        check.due("loss(-1) of three", x.loss(-1), 72 + 279);
        x.on();
        check.due("holds() of one", x.holds(), 0);
        check.due("longest() of one", x.longest(), 0);
        check.due("loss(-1) of one", x.loss(-1), 18);
        check.due("open() of one", x.open(), 6);
        check.due("worse() of one", x.worse(), 0);
        check.due("followed() of one", x.followed(), 0);
        check.due("order(1) of one", x.order(1), -9);
    }

    private void count() {
        DoorIsHeld x = Check.doorOf("d345;c623;wp1,1,1000;");
        x.film(1, 0, 0, 1);
        x.row(3);
        x.row(3);
        x.letter(1);
        int[] due = {1, 3, 4, 5, 6, 23, 1, 2, 1};
        for (int what = 0; what < due.length; what++) {
            int w = what;
            counted(x, "count(" + what + ")", due[what], () -> x.count(w));
        }
        for (int what : new int[] {Integer.MIN_VALUE, -1, 9, 10, 17, Integer.MAX_VALUE}) {
            counted(x, "count(" + what + ")", -9, () -> x.count(what));
        }
        check.due("count(15)", x.count(15), 0);
        int[] times = {0, 2, 3, 1, 4, 0, 5};
        for (int i = 0; i < 5; i++) {
            if (i < times[1]) {
                x.there(9);
            }
            if (i < times[2]) {
                x.custom(7);
            }
            if (i < times[3]) {
                x.on();
            }
            if (i < times[4]) {
                x.row(-1);
            }
            if (i < times[6]) {
                x.row(10);
            }
        }
        for (int number = 1; number <= 6; number++) {
            check.due("count(" + (10 + number) + ")", x.count(10 + number), times[number]);
        }
    }
}
