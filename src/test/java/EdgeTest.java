import java.math.BigInteger;
import java.util.ArrayList;
import java.util.Arrays;
import java.util.List;
import java.util.Random;

/**
 * Each boundary case that the document names, by itself. Each is called on a new object, then in the middle
 * of other calls with a twin beside it that is spared the last call (nothing but the count of a refusal may
 * tell the two apart, where it is refused or only asks), then as the 512th call of an object.
 */
public final class EdgeTest {
    private static final int CALLS = 512;
    /** The third holds it for the fourth, he for the fifth, he for the sixth, who runs; the seventh for the last. */
    private static final String EIGHT =
        "'wp0,1,1000;wr0,2,1010;wh0,3,1100;wb0,4,1200;' = 4 & 'wc0,5,1000;wo0,6,1000;wp0,7,1000;wp0,8,1000;' = 4";
    private static final String[] OF_WALKER =
        {"there", "comes", "through", "opens", "stands", "by", "runs", "alone", "loss"};
    /** Ways that come, that are faulty and that lack something, for the calls ahead of a case. */
    private static final String[] WAYS = {"d111;", "d942;c640;", "c25;wp0,10,2003;wr0,16,2012;", "wo9,9,1119;",
        "wh12,40,4215;wb0,33,2201;", "wc3,4,1000;", "d0", "c70;", "x", "w", ";"};
    private static final int[] NUMBERS = {Integer.MIN_VALUE, -2, -1, 0, 0, 1, 1, 2, 3, 4, 5, 6, 7, 8, 9, 10, 20, 21,
        40, 41, 255, 256, Integer.MAX_VALUE};

    private final Check check = new Check("EdgeTest");
    private final List<String> names = new ArrayList<>(Step.METHODS.keySet());
    private int cases = 0;

    public static void main(String[] args) {
        EdgeTest test = new EdgeTest();
        test.names.sort(null);
        test.doorNumbers();
        test.letters();
        test.wayRanges();
        test.wayFaults();
        test.wayRoom();
        test.walkers();
        test.fars();
        test.whoIsNext();
        test.opening();
        test.holding();
        test.costs();
        test.inMind();
        test.films();
        test.fitting();
        test.seeds();
        test.row();
        test.image();
        test.counts();
        test.questions();
        System.out.println("EdgeTest: " + test.cases + " cases");
        test.check.end();
    }

    // ---- the cases, in the order of the document ----

    private void doorNumbers() {
        edge("a new object", "count(0) = 0 & count(1) = 4 & count(2) = 2 & count(3) = 1 & count(4) = 1 & count(5) = 5");
        edge("a new object", "count(6) = 0 & count(7) = 0 & count(8) = 0");
        int[] least = {1, 0, 0, 0};
        int[] most = {9, 9, 9, 40};
        int[] first = {4, 2, 1, 5};
        for (int what = 0; what < 4; what++) {
            String set = "set(" + what + ", ";
            String told = what == 3 ? "count(5)" : "count(" + (what + 1) + ")";
            edge("the least", set + least[what] + ") = " + first[what] + " & " + told + " = " + least[what]);
            edge("the greatest", set + most[what] + ") = " + first[what] + " & " + told + " = " + most[what]);
            edge("what it was", set + most[what] + ") & " + set + least[what] + ") = " + most[what]);
            edge("what it was", set + least[what] + ") & " + set + most[what] + ") = " + least[what]);
            edge("below the least", set + (least[what] - 1) + ") = -4");
            edge("far below", set + "min) = -4");
            edge("above the greatest", set + (most[what] + 1) + ") = -6");
            edge("far above", set + "max) = -6");
            edge("refused: as it was", set + (most[what] + 1) + ") = -6 & " + told + " = " + first[what]);
        }
        for (String what : new String[] {"-1", "4", "5", "min", "max"}) {
            edge("no such what", "set(" + what + ", 1) = -2");
            edge("no such what, below", "set(" + what + ", -1) = -2");
            edge("no such what, above", "set(" + what + ", 41) = -2");
        }
        edge("the least CUSTOM", "custom(0) = 1 & count(4) = 0");
        edge("the greatest CUSTOM", "custom(6) = 1 & count(4) = 6 & custom(6) = 6");
        for (String custom : new String[] {"-1", "7", "min", "max"}) {
            edge("no such CUSTOM", "custom(" + custom + ") = -2");
            edge("no such CUSTOM: as it was", "custom(" + custom + ") = -2 & count(4) = 1");
        }
    }

    private void letters() {
        edge("the least letter", "letter(0) = 1");
        edge("the greatest letter", "letter(255) = 1");
        edge("below", "letter(-1) = -4");
        edge("far below", "letter(min) = -4");
        edge("above", "letter(256) = -6");
        edge("far above", "letter(max) = -6");
        edge("the 80th", "79 x letter(59) & letter(59) = 80");
        edge("the 81st", "80 x letter(59) & letter(59) = -6");
        edge("the 81st, below", "80 x letter(59) & letter(-1) = -4");
        edge("the 81st, above", "80 x letter(59) & letter(256) = -6");
        edge("the 81st is not there", "80 x letter(59) & letter(59) = -6 & count(8) = 80");
        edge("room again behind way()", "80 x letter(59) & way() = -1000 & count(8) = 0 & letter(59) = 1");
        edge("80 letters that are a way", "20 x tell 'c11;' & way() = 20");
        edge("80 letters of 16", "16 x tell 'c140;' & way() = 16 & count(5) = 40");
        edge("the 81st is no letter of the way", "20 x tell 'c11;' & letter(120) = -6 & way() = 20");
        edge("80 letters that lack one", "19 x tell 'c11;' & tell 'd111' & way() = -1080");
        edge("80 letters, the last one wrong", "19 x tell 'c11;' & tell 'd11;' & way() = -1079");
        edge("80 letters, the last statement wrong", "19 x tell 'c11;' & tell 'c71;' & way() = -2076");
    }

    private void wayRanges() {
        String[] good = {"d100;", "d999;", "d199;", "d900;", "c00;", "c000;", "c040;", "c600;", "c640;", "wp0,1,1000;",
            "wp00,01,1000;", "wp99,40,4219;", "wr9,9,1000;", "wh09,09,1000;", "wb0,1,1200;", "wc0,1,1010;", "wo0,1,1009;"};
        for (String text : good) {
            edge("in range", "'" + text + "' = 1");
        }
        String[] bad = {"d000;", "d099;", "c70;", "c99;", "c041;", "c699;", "c799;", "wp0,0,1000;", "wp0,00,1000;",
            "wp0,41,1000;", "wp0,99,1000;", "wp0,1,0000;", "wp0,1,5000;", "wp0,1,9000;", "wp0,1,1300;", "wp0,1,1900;",
            "wp0,1,1020;", "wp0,1,1090;"};
        for (String text : bad) {
            edge("out of range", "'" + text + "' = -2000");
            edge("out of range: no letters are left", "'" + text + "' = -2000 & count(8) = 0");
            edge("out of range behind another", "'c05;" + text + "' = -2004");
            edge("out of range: nothing comes", "'d111;c00;wp0,1,1000;" + text + "' = -2020 & count(0) = 0 & count(1) = 4");
            edge("out of range ahead of another", "'" + text + "c05;' = -2000 & count(5) = 5");
        }
        edge("the least of a door", "'d100;' & count(1) = 1 & count(2) = 0 & count(3) = 0");
        edge("the greatest of a door", "'d999;' & count(1) = 9 & count(2) = 9 & count(3) = 9");
        edge("the least of a custom", "'c000;' & count(4) = 0 & count(5) = 0");
        edge("FAR of a digit", "'c09;' & count(5) = 9");
        edge("FAR that begins with 0", "'c009;' & count(5) = 9");
        edge("the greatest of a custom", "'c640;' & count(4) = 6 & count(5) = 40");
        edge("the first of two that are wrong", "'d111;c70;d000;' = -2005");
        edge("a statement is as it must be behind those ahead of it", "'d111;d222;d333;' = 3 & count(1) = 3");
    }

    private void wayFaults() {
        edge("at least one statement", "way() = -1000");
        edge("no letters are left", "way() = -1000 & way() = -1000");
        String[] lacking = {"d", "d1", "d11", "d111", "c", "c1", "c11", "c111", "w", "wp", "wp0", "wp01", "wp0,", "wp01,",
            "wp0,1", "wp0,01", "wp0,1,", "wp0,1,1", "wp0,1,10", "wp0,1,100", "wp0,1,1000", "d111;d", "d111;c1", "c11;w"};
        for (String text : lacking) {
            edge("something lacks", "'" + text + "' = " + (-1000 - text.length()));
            edge("something lacks: nothing comes", "'" + text + "' & count(8) = 0 & count(0) = 0 & count(1) = 4");
        }
        // The last letter of each is the first that does not fit.
        String[] wrong = {";", "x", "1", " ", "D", "d;", "dd", "d1;", "d11;", "d1111", "d11,", "c;", "c1;", "c,",
            "c1111", "c11,", "w;", "wx", "w0", "wP", "wp;", "wp,", "wp0;", "wp000", "wp00;", "wp0,;", "wp0,,", "wp0,1;",
            "wp0,100", "wp0,1,;", "wp0,1,1;", "wp0,1,10;", "wp0,1,100;", "wp0,1,10000", "wp0,1,1000,", "d111;;",
            "d111;x", "c1/", "c1:", "d/", "d:"};
        for (String text : wrong) {
            edge("does not fit", "'" + text + "' = " + (-999 - text.length()));
            edge("does not fit, more behind it", "'" + text + "c11;' = " + (-999 - text.length()));
        }
        edge("kind 1 ahead of kind 2", "'c70;d000;x' = -1009");
        edge("kind 1 at the end ahead of kind 2", "'c70;d' = -1005");
        edge("the least letter", "letter(0) & way() = -1000");
        edge("the greatest letter", "letter(255) & way() = -1000");
        edge("a letter 256 above a fitting one is refused", "letter(356) = -6 & tell 'd111;' & way() = 1");
        edge("behind a fault the letters begin anew", "'d11' = -1003 & '1;' = -1000");
    }

    private void wayRoom() {
        String one = "wp0,1,1000;";
        String four = one + one + one + one;
        edge("the eighth", "'" + four + "' & '" + four + "' = 4 & count(0) = 8");
        edge("the ninth", "'" + four + "' & '" + four + "' & '" + one + "' = -2000");
        edge("the ninth is not there", "'" + four + "' & '" + four + "' & '" + one + "' = -2000 & count(0) = 8");
        edge("the ninth behind a door", "'" + four + "' & '" + four + "' & 'd111;" + one + "' = -2005");
        edge("... whose door does not come", "'" + four + "' & '" + four + "' & 'd111;" + one + "' & count(1) = 4");
        edge("the ninth of five more", "'" + four + "' & '" + four + one + "' = -2044 & count(0) = 4");
        edge("seven at once, then two", "'" + four + one + one + one + "' = 7 & '" + one + one + "' = -2011");
        edge("seven at once, then one", "'" + four + one + one + one + "' = 7 & '" + one + "' = 1 & count(0) = 8");
        edge("a ninth that lacks something", "'" + four + "' & '" + four + "' & 'wp' = -1002");
        edge("a ninth, out of range, too", "'" + four + "' & '" + four + "' & 'wp0,0,1000;' = -2000");
        edge("none of the full ones is changed", "'" + four + "' & '" + four + "' & 'wo9,9,4219;' & walker(7, 0) = 0");
        edge("doors and customs need no room", "'" + four + "' & '" + four + "' & 'd111;c00;' = 2");
        edge("a way wrong ahead of the ninth", "'" + four + "' & '" + four + "' & 'c70;" + one + "' = -2000");
    }

    private void walkers() {
        String[] numbers = {"p0,1,1000", "r99,40,4219", "h9,9,2101", "b0,1,1200", "c0,1,1010", "o12,34,3009"};
        int[][] due = {{0, 0, 1, 1, 0, 0, 0, 1}, {1, 99, 40, 4, 2, 1, 9, 8}, {2, 9, 9, 2, 1, 0, 1, 5},
            {3, 0, 1, 1, 2, 0, 0, 1}, {4, 0, 1, 1, 0, 1, 0, 1}, {5, 12, 34, 3, 0, 0, 9, 6}};
        for (int i = 0; i < numbers.length; i++) {
            for (int what = 0; what < 8; what++) {
                edge("what is told", "'w" + numbers[i] + ";' & walker(0, " + what + ") = " + due[i][what]);
            }
        }
        String[] heldFor = {"p0,1,4200", "c0,1,4200", "r0,1,1200", "h0,1,1200", "h0,1,4200", "o0,1,1200", "o0,1,4200",
            "b0,1,4000", "b0,1,4200", "b0,1,3200", "b0,1,2200", "b0,1,2100", "b0,1,1100", "b0,1,1000"};
        int[] yards = {4, 4, 2, 3, 9, 2, 8, 4, 2, 1, 1, 1, 1, 1};
        for (int i = 0; i < heldFor.length; i++) {
            edge("YARDS held for", "'w" + heldFor[i] + ";' & walker(0, 7) = " + yards[i]);
        }
        edge("the eighth", EIGHT + " & walker(7, 2) = 8");
        for (String nobody : new String[] {"-1", "8", "min", "max"}) {
            edge("nobody", EIGHT + " & walker(" + nobody + ", 0) = -1");
            edge("nobody, no such what", EIGHT + " & walker(" + nobody + ", 8) = -1");
        }
        edge("nobody in a new object", "walker(0, 0) = -1");
        edge("one behind the last", "'wp0,1,1000;' & walker(1, 0) = -1");
        for (String what : new String[] {"-1", "8", "min", "max"}) {
            edge("no such what", EIGHT + " & walker(7, " + what + ") = -2");
        }
        for (String call : OF_WALKER) {
            for (String nobody : new String[] {"-2", "8", "min", "max"}) {
                edge("nobody", EIGHT + " & " + call + "(" + nobody + ") = -1");
            }
            edge("nobody in a new object", call + "(0) = -1");
            edge("one behind the last", "'wp0,1,1000;' & " + call + "(1) = -1");
            edge("-1", EIGHT + " & " + call + "(-1) = " + (call.equals("loss") ? 1 : -1));
        }
        edge("loss(-1) of nobody", "loss(-1) = 0");
    }

    private void fars() {
        // 0 worth 5; 1 looks, bags 2, worth 9; 2 OTHER; 3 bags 1, worth 4.
        String them = "'wp0,9,1005;wp0,9,1219;wo0,9,1000;wp0,9,1104;' & ";
        String[] customs = {"c040;", "c10;", "c140;", "c20;", "c240;", "c30;", "c340;", "c40;", "c50;", "c540;", "c60;",
            "c640;"};
        int[] forOne = {0, 0, 40, 4, 44, 4, 44, 40, 0, 0, 8, 48};
        int[] forThree = {0, 0, 40, 0, 40, 2, 42, 40, 0, 0, 0, 39};
        for (int i = 0; i < customs.length; i++) {
            String told = them + "'" + customs[i] + "' & ";
            edge("far for 1", told + "far(0, 1, 0) = " + forOne[i]);
            edge("far for 3", told + "far(0, 3, 0) = " + forThree[i]);
            edge("held for him", told + "far(0, 1, 1) = " + (customs[i].equals("c540;") ? 40 : forOne[i]));
            edge("OTHER holds it for nobody", told + "far(2, 1, 0) = 0");
            edge("OTHER, held for him", told + "far(2, 1, 1) = 0");
        }
        edge("for OTHER", them + "far(0, 2, 0) = 5");
        edge("WORTHS: just 0", "'c65;wp0,9,1005;wp0,9,1000;' & far(0, 1, 0) = 0");
        edge("WORTHS: just above 0", "'c65;wp0,9,1005;wp0,9,1001;' & far(0, 1, 0) = 1");
        edge("WORTHS: 0 at least", "'c65;wp0,9,1006;wp0,9,1000;' & far(0, 1, 0) = 0");
        edge("WORTHS: the least", "'c60;wp0,9,1009;wp0,9,1000;' & far(0, 1, 0) = 0");
        edge("WORTHS: the greatest", "'c640;wp0,9,1000;wp0,9,1019;' & far(0, 1, 0) = 53");
        edge("one twice", them + "far(1, 1, 0) = -1");
        edge("one twice, held neither", them + "far(1, 1, 2) = -1");
        for (String nobody : new String[] {"-1", "4", "8", "min", "max"}) {
            edge("nobody", them + "far(" + nobody + ", 0, 0) = -1");
            edge("nobody is the next one", them + "far(0, " + nobody + ", 1) = -1");
            edge("nobody, held neither", them + "far(0, " + nobody + ", 2) = -1");
            edge("nobody twice", them + "far(" + nobody + ", " + nobody + ", 0) = -1");
        }
        for (String held : new String[] {"-1", "2", "min", "max"}) {
            edge("held neither", them + "far(0, 1, " + held + ") = -2");
            edge("held neither, OTHER", them + "far(2, 1, " + held + ") = -2");
        }
        edge("the eighth", EIGHT + " & far(7, 6, 0) = 5 & far(6, 7, 1) = 5 & far(7, 8, 0) = -1");
        edge("nobody in a new object", "far(0, 1, 0) = -1");
    }

    private void whoIsNext() {
        String[] texts = {"wp0,1,4000;", "wp0,4,4000;", "wp0,5,4000;", "wp99,40,1000;", "wp99,40,3000;", "wp99,1,4000;"};
        int[] there = {1, 1, 2, 139, 113, 100};
        for (int i = 0; i < texts.length; i++) {
            edge("by PACE (up)", "'" + texts[i] + "' & there(0) = " + there[i]);
            edge("nobody ahead: he COMES then", "'" + texts[i] + "' & comes(0) = " + there[i]);
        }
        edge("nobody", "order(0) = -9");
        edge("below", "order(-1) = -4");
        edge("far below", EIGHT + " & order(min) = -4");
        edge("the last", EIGHT + " & order(7) = 7");
        edge("one behind the last", EIGHT + " & order(8) = -9");
        edge("far behind", EIGHT + " & order(max) = -9");
        edge("of several the least number", "'wp0,3,1000;wp0,2,1000;wp0,2,1000;' & order(0) = 1 & order(1) = 2 & order(2) = 0");
        edge("as soon, cut up", "'wp0,4,1000;wp0,7,2000;wp2,5,3000;' & order(0) = 0 & order(1) = 1 & order(2) = 2");
        edge("all as soon", EIGHT.replaceAll("0,[1-8],1", "0,9,1") + " & order(0) = 0 & order(7) = 7");
        // 0 is THROUGH at 3: 1 and 2 have been there since 2, 3 comes later but has the least wait.
        edge("not before the one ahead is GONE", "'c00;wp0,1,1000;wp0,2,1000;wp0,3,1000;wp0,4,1000;' & comes(1) = 3 & comes(2) = 3");
        edge("... nor behind it", "'c00;wp0,1,1000;wp0,2,1000;wp0,3,1000;wp0,4,1000;' & comes(3) = 4 & through(3) = 4");
    }

    private void opening() {
        // 0 is GONE at 6.
        for (int shuts = 1; shuts <= 9; shuts++) {
            String told = "'d" + shuts + "21;c00;wp0,4,1000;wp0,";
            edge("just open", told + (5 + shuts) + ",1000;' & opens(1) = 0 & through(1) = " + (5 + shuts));
            edge("just shut", told + (6 + shuts) + ",1000;' & opens(1) = 2 & through(1) = " + (8 + shuts));
        }
        edge("he has waited: open", "'d121;c00;wp0,4,1000;wp0,5,1000;' & opens(1) = 0 & comes(1) = 6");
        edge("nobody ahead: shut", "'d920;wp0,1,1000;' & opens(0) = 2");
        edge("nobody ahead of him who is there first", "'d920;wp0,9,1000;wp0,1,1000;' & opens(1) = 2 & opens(0) = 0");
        edge("HEAVY 0, no BAGS", "'d100;wp0,1,1000;' & opens(0) = 0 & through(0) = 1");
        edge("HEAVY 0, a bag", "'d100;wp0,1,1100;' & opens(0) = 1");
        edge("HEAVY 9, two BAGS", "'d190;wp0,1,1200;' & opens(0) = 11");
        edge("CARDED, HEAVY 0, no BAGS: 0 at least", "'d100;wc0,1,1000;' & opens(0) = 0 & through(0) = 1");
        edge("CARDED, HEAVY 1", "'d110;wc0,1,1000;' & opens(0) = 0");
        edge("CARDED, HEAVY 0, a bag", "'d100;wc0,1,1100;' & opens(0) = 0");
        edge("CARDED, HEAVY 9, two BAGS", "'d190;wc0,1,1200;' & opens(0) = 10");
        for (String kind : new String[] {"p", "r", "h", "b", "o"}) {
            edge("others open in full", "'d110;w" + kind + "0,1,1100;' & opens(0) = 2");
        }
        edge("CARDED finds it open", "'d990;c00;wp0,1,1000;wc0,1,1200;' & opens(1) = 0");
    }

    private void holding() {
        // 0 is THROUGH at 3.
        String one = "wp0,1,1000;";
        edge("START is just then", "'c40;" + one + "wp3,9,1000;' & stands(0) = 9 & by(1) = 0 & comes(1) = 12");
        edge("START is a second later", "'c40;" + one + "wp4,9,1000;' & stands(0) = 0 & by(1) = -9 & comes(1) = 13");
        edge("no YARDS to go", "'c40;" + one + "wp0,3,1000;' & stands(0) = 0 & by(1) = -9 & through(1) = 3");
        edge("less than none", "'c40;" + one + "wp0,4,2000;' & stands(0) = 0 & by(1) = -9 & through(1) = 3");
        edge("a yard to go", "'c40;" + one + "wp0,4,1000;' & stands(0) = 1 & by(1) = 0 & through(1) = 4");
        edge("the greatest: 37 by FAR 37", "'c137;" + one + "wp0,40,1000;' & stands(0) = 37 & holds() = 1");
        edge("a yard more than FAR", "'c136;" + one + "wp0,40,1000;' & stands(0) = 0 & holds() = 0");
        edge("40 by ALWAYS", "'c40;" + one + "wp3,40,1000;' & stands(0) = 40 & longest() = 40");
        edge("40 by FAR 40", "'c140;" + one + "wp3,40,1000;' & stands(0) = 40");
        edge("40 by FAR 39", "'c139;" + one + "wp3,40,1000;' & stands(0) = 0");
        edge("1 by FAR 0", "'c10;" + one + "wp3,1,1000;' & stands(0) = 0");
        edge("1 by FAR 1", "'c11;" + one + "wp3,1,1000;' & stands(0) = 1");
        edge("4 by LOOKS, FAR 0", "'c20;" + one + "wp3,4,1010;' & stands(0) = 4");
        edge("5 by LOOKS, FAR 0", "'c20;" + one + "wp3,5,1010;' & stands(0) = 0");
        edge("1 by LOOKS that do not meet", "'c20;" + one + "wp3,1,1000;' & stands(0) = 0");
        edge("4 by BAGS, FAR 0", "'c30;" + one + "wp3,4,1200;' & stands(0) = 4");
        edge("5 by BAGS, FAR 0", "'c30;" + one + "wp3,5,1200;' & stands(0) = 0");
        edge("13 by WORTHS, FAR 0", "'c60;" + one + "wp3,13,1019;' & stands(0) = 13");
        edge("14 by WORTHS, FAR 0", "'c60;" + one + "wp3,14,1019;' & stands(0) = 0");
        edge("40 by WORTHS above 40", "'c640;" + one + "wp3,40,1019;' & stands(0) = 40");
        edge("AS DONE: to begin with it was held for nobody", "'c540;" + one + "wp3,1,1000;wp4,1,1000;' & holds() = 0");
        edge("NEVER", "'c040;" + one + "wp3,1,1000;' & holds() = 0");
        edge("OTHER never holds it", "'c40;wo0,1,1000;wp3,1,1000;' & holds() = 0");
        edge("OTHER, for whom it was held, neither", "'c40;" + one + "wo3,4,1000;wp5,9,1000;' & by(1) = 0 & by(2) = -9 & stands(1) = 0");
        edge("just two seconds", "'c40;" + one + "wr3,8,2000;' & stands(0) = 2 & runs(1) = 2");
        edge("a yard more: up", "'c40;" + one + "wr3,9,2000;' & stands(0) = 3 & runs(1) = 3");
        edge("one second for a yard by 9", "'c40;" + one + "wh3,1,4000;' & stands(0) = 1 & runs(1) = 1");
        edge("by 1: the longest", "'c40;" + one + "wb3,40,1200;' & stands(0) = 40 & runs(1) = 0 & through(1) = 43");
        edge("BURDENED without BAGS does not run", "'c40;" + one + "wb3,4,4000;' & stands(0) = 1 & runs(1) = 0");
        edge("he who is not held for does not run", "'c00;" + one + "wh3,1,4000;' & runs(1) = 0");
        eightHeldFor();
    }

    /** Each a yard off, as the one ahead is THROUGH. */
    private void eightHeldFor() {
        String them = "'c40;d120;wp0,1,1001;wp3,1,1001;wp4,1,1001;wp5,1,1001;' & 'wp6,1,1001;wp7,1,1001;wp8,1,1001;wr9,1,1001;' & ";
        edge("seven of eight are held for", them + "holds() = 7 & longest() = 1 & by(7) = 6 & runs(7) = 1 & stands(7) = 0");
        edge("all but the first follow", them + "followed() = 254 & opens(7) = 0 & through(7) = 10");
        edge("those who stand are worse", them + "loss(0) = 3 & loss(7) = 1 & loss(-1) = 10");
        edge("one door for all", them + "open() = 10 & coals() = 0 & away() = 4");
    }

    private void costs() {
        edge("WORTH 9", "'d190;wp0,1,1209;' & loss(0) = 99 & loss(-1) = 99");
        edge("WORTH 0", "'d190;wp0,1,1200;' & loss(0) = 0 & loss(-1) = 0");
        edge("nobody", "holds() = 0 & longest() = 0 & away() = -9 & open() = 0 & coals() = 0");
        edge("nobody", "bestFar() = 0 & bestCustom() = 0 & bestShuts() = 1 & worse() = 0 & followed() = 0 & porter() = 0");
        edge("away() of nobody", "away() = -9");
        edge("one", "'wp0,1,1001;' & holds() = 0 & longest() = 0 & away() = 3 & open() = 6 & coals() = 6");
        edge("one", "'wp0,1,1001;' & bestFar() = 0 & bestCustom() = 0 & bestShuts() = 1 & worse() = 0 & followed() = 0 & porter() = 2");
        edge("the latest", "'d190;wp99,40,1200;' & away() = 150");
        edge("WARMTH 0", "'d420;wp0,1,1000;' & coals() = 0 & open() = 6");
        edge("WARMTH 9", "'d429;wp0,1,1000;' & coals() = 54 & open() = 6");
        edge("SHUTS 1", "'d121;wp0,1,1000;' & open() = 3");
        edge("SHUTS 9", "'d921;wp0,1,1000;' & open() = 11");
        // 0 from 4 till 10.
        edge("a second between", "'c00;wp0,4,1000;wp0,11,1000;' & open() = 12");
        edge("as it shuts", "'c00;wp0,4,1000;wp0,10,1000;' & open() = 12");
        edge("a second counted once", "'c00;wp0,4,1000;wp0,9,1000;' & open() = 9");
        edge("two at once", "'c00;wp0,4,1000;wp0,4,1000;' & open() = 6");
        edge("by the last of a chain", "'c15;wp0,4,1000;wr0,10,1000;wp0,40,1000;' & open() = 14");
    }

    private void inMind() {
        String pair = "'wp0,10,2003;wr0,16,2012;' & ";
        edge("the least", pair + "byOther(0, 0) = 6");
        edge("the greatest", pair + "byOther(6, 40) = 10");
        for (String custom : new String[] {"-1", "7", "min", "max"}) {
            edge("no such CUSTOM", pair + "byOther(" + custom + ", 0) = -2");
            edge("no such CUSTOM, below", pair + "byOther(" + custom + ", -1) = -2");
            edge("no such CUSTOM, above", pair + "byOther(" + custom + ", 41) = -2");
        }
        edge("below", pair + "byOther(0, -1) = -4");
        edge("far below", pair + "byOther(6, min) = -4");
        edge("above", pair + "byOther(0, 41) = -6");
        edge("far above", pair + "byOther(6, max) = -6");
        edge("of several the least FAR", pair + "bestFar() = 0");
        edge("the greatest FAR", "'d190;wp0,1,1001;wp10,40,1209;' & bestFar() = 40");
        edge("a yard less", "'d190;wp0,1,1001;wp10,39,1209;' & bestFar() = 39");
        edge("FAR makes no difference", "'c40;wp0,1,1009;wp3,1,1000;' & bestFar() = 0");
        edge("of several the least CUSTOM", pair + "bestCustom() = 0");
        edge("the least that holds it", "'d220;c112;wp0,1,1001;wp0,15,1219;' & bestCustom() = 1");
        edge("the greatest CUSTOM", "'d220;c05;wp0,1,1001;wp0,15,1209;wp9,40,1000;' & bestCustom() = 6");
        edge("the least SHUTS", "'c00;d590;wp0,4,1000;wp0,22,1009;' & bestShuts() = 1");
        edge("the greatest SHUTS", "'c00;d190;wp0,4,1000;wp0,21,1009;' & bestShuts() = 9");
        edge("of several the least SHUTS", "'c00;d410;wp0,4,1000;wp0,8,1009;' & bestShuts() = 4");
        // By SHUTS 1 it is open 2 and 2 seconds and the second OPENS 1; by 4 it is open 8 and he OPENS 0.
        edge("LOSS and COALS as great", "'c00;d111;wp0,4,1000;wp0,8,1004;' & bestShuts() = 1");
        edge("LOSS and COALS one less", "'c00;d111;wp0,4,1000;wp0,8,1005;' & bestShuts() = 4");
        edge("greater, not as great", "'c40;d100;wp0,1,1001;wp2,1,1000;' & worse() = 0");
        edge("as great by NEVER", "'c00;wp0,1,1009;wp3,1,1000;' & worse() = 0");
        edge("greater by one", "'c40;wp0,1,1001;wp3,1,1000;' & worse() = 1");
        // 2 with his bag OPENS 1, 4 is CARDED.
        edge("OPENS 0 by a door of no weight", EIGHT + " & 'd100;c00;' & followed() = 235");
        edge("OPENS 0: all", "'d100;wp0,1,1000;wp0,9,1000;' & followed() = 3");
        edge("alone", "'wp0,1,1009;' & alone(0) = 0");
        edge("the last of eight", EIGHT + " & alone(7) = 1 & alone(5) = 0 & count(0) = 8");
        edge("all are there behind it", pair + "alone(0) = 4 & loss(-1) = 10");
    }

    private void films() {
        String ten = "10 x film(9, 0, 0, 1) & ";
        edge("the least", "film(1, 0, 0, 0) = 1");
        edge("the greatest", "film(40, 1, 2, 1) = 1");
        edge("the tenth", "9 x film(9, 0, 0, 1) & film(9, 0, 0, 1) = 10");
        edge("the eleventh", ten + "film(9, 0, 0, 1) = -6");
        edge("the eleventh is not there", ten + "film(9, 0, 0, 1) = -6 & count(6) = 10");
        edge("the eleventh, told", ten + "told(9, 0, 0) = -6");
        edge("the eleventh, told, no custom for it", ten + "custom(4) & told(9, 0, 0) = -6");
        edge("the tenth, told", "9 x film(9, 0, 0, 1) & told(9, 0, 0) = 0 & count(6) = 10");
        String[] wrong = {"0, 0, 0", "min, 0, 0", "1, 0, -1", "1, 0, min", "41, 0, 0", "max, 0, 0", "1, 0, 3", "1, 0, max",
            "1, -1, 0", "1, 2, 0", "1, min, 0", "1, max, 0", "0, 2, 3", "41, 2, -1", "41, 2, 0", "1, 2, 3", "41, 0, -1", "0, 0, 3"};
        int[] due = {-4, -4, -4, -4, -6, -6, -6, -6, -2, -2, -2, -2, -4, -4, -6, -6, -4, -4};
        for (int i = 0; i < wrong.length; i++) {
            String numbers = "(" + wrong[i];
            edge("film", "film" + numbers + ", 0) = " + due[i]);
            edge("film, held neither, too", "film" + numbers + ", 2) = " + due[i]);
            edge("film, 10 there", ten + "film" + numbers + ", 0) = " + due[i]);
            edge("told", "told" + numbers + ") = " + due[i]);
            edge("told, 10 there", ten + "told" + numbers + ") = " + due[i]);
            edge("told, no custom for it", "custom(0) & told" + numbers + ") = " + due[i]);
        }
        for (String held : new String[] {"-1", "2", "min", "max"}) {
            edge("held neither", "film(1, 0, 0, " + held + ") = -2");
            edge("held neither, 10 there", ten + "film(1, 0, 0, " + held + ") = -2");
        }
        toldAtTheEdges();
    }

    private void toldAtTheEdges() {
        String[] customs = {"c10;", "c140;", "c139;", "c20;", "c236;", "c235;", "c30;", "c336;", "c335;"};
        // The yards at which it is held still, by LOOKS 1 and BAGS 2.
        int[] upTo = {0, 40, 39, 4, 40, 39, 4, 40, 39};
        for (int i = 0; i < customs.length; i++) {
            if (upTo[i] > 0) {
                edge("held still", "'" + customs[i] + "' & told(" + upTo[i] + ", 1, 2) = 1 & count(6) = 1");
            }
            if (upTo[i] < 40) {
                edge("held no more", "'" + customs[i] + "' & told(" + (upTo[i] + 1) + ", 1, 2) = 0 & count(6) = 1");
            }
        }
        for (int custom : new int[] {0, 4, 5, 6}) {
            edge("the CUSTOM is not 1 .. 3", "custom(" + custom + ") & told(1, 0, 0) = -3");
            edge("... and no film is there", "custom(" + custom + ") & told(1, 0, 0) = -3 & count(6) = 0");
        }
        edge("told as it is", "told(5, 0, 0) = 1 & told(6, 0, 0) = 0 & fitting(1, 0) = 1 & fitting(1, 1) = 5 & fitting(1, 2) = 5");
    }

    private void fits(String films, int custom, int many, int least, int greatest) {
        edge("how many", films + " & fitting(" + custom + ", 0) = " + many);
        edge("the least", films + " & fitting(" + custom + ", 1) = " + least);
        edge("the greatest", films + " & fitting(" + custom + ", 2) = " + greatest);
    }

    private void fitting() {
        for (int custom = 1; custom <= 3; custom++) {
            fits("", custom, 41, 0, 40);
            fits("film(40, 0, 0, 1)", custom, 1, 40, 40);
            fits("film(40, 0, 0, 0)", custom, 40, 0, 39);
            fits("film(1, 0, 0, 0)", custom, 1, 0, 0);
            fits("film(1, 0, 0, 1)", custom, 40, 1, 40);
            fits("film(7, 0, 0, 1) & film(7, 0, 0, 0)", custom, 0, -9, -9);
            fits("film(7, 0, 0, 1) & film(8, 0, 0, 0)", custom, 1, 7, 7);
            fits("10 x film(7, 0, 0, 1)", custom, 34, 7, 40);
            fits("9 x film(7, 0, 0, 1) & film(6, 0, 0, 0)", custom, 0, -9, -9);
        }
        fits("film(4, 1, 2, 1)", 1, 37, 4, 40);
        fits("film(4, 1, 0, 1)", 2, 41, 0, 40);
        fits("film(4, 1, 0, 0)", 2, 0, -9, -9);
        fits("film(5, 1, 0, 0)", 2, 1, 0, 0);
        fits("film(40, 1, 2, 1)", 2, 5, 36, 40);
        fits("film(4, 0, 2, 1)", 3, 41, 0, 40);
        fits("film(4, 0, 2, 0)", 3, 0, -9, -9);
        fits("film(3, 1, 1, 0)", 3, 1, 0, 0);
        fits("film(40, 1, 2, 0)", 3, 36, 0, 35);
        for (String custom : new String[] {"-1", "0", "4", "5", "6", "7", "min", "max"}) {
            edge("CUSTOMS 1 .. 3 alone", "fitting(" + custom + ", 0) = -2");
        }
        for (String what : new String[] {"-1", "3", "min", "max"}) {
            edge("no such what", "fitting(1, " + what + ") = -2");
            edge("no such what", "fitting(3, " + what + ") = -2");
        }
    }

    /** Two walkers: the second is held for, if he LOOKS. Worked out in numbers that do not wrap around. */
    private static int heldBySeeds(int n, int z) {
        BigInteger seed = BigInteger.valueOf(z & 0xffffffffL);
        int held = 0;
        for (int draw = 0; draw < 2 * n; draw++) {
            seed = seed.multiply(BigInteger.valueOf(1664525)).add(BigInteger.valueOf(1013904223))
                .mod(BigInteger.ONE.shiftLeft(32));
            BigInteger cut = seed.mod(BigInteger.ONE.shiftLeft(31)).divide(BigInteger.valueOf(256));
            held += draw % 2 == 1 ? cut.mod(BigInteger.TWO).intValue() : 0;
        }
        return held;
    }

    private void seeds() {
        String pair = "'c22;wp0,1,1010;wp0,9,1000;' & ";
        for (int z : new int[] {0, 1, -1, 2, Integer.MAX_VALUE, Integer.MIN_VALUE, Integer.MAX_VALUE - 1, 1290, -1013904223}) {
            for (int n : new int[] {1, 2, 3, 19, 20}) {
                edge("a wrap-around", pair + "seeds(" + n + ", " + z + ") = " + heldBySeeds(n, z));
            }
        }
        // 0, 1013904223 (odd by 256), 1196435762 (odd by 256, below 0 behind the next).
        edge("LOOKS by numbers: the second's is the second draw", pair + "seeds(1, 0) = 1");
        // He who is THROUGH first has the greater number: his is the second draw, the next one's the first.
        edge("by numbers, not as they come", "'c22;wp0,9,1000;wp0,1,1010;' & seeds(1, 0) = 1 & seeds(20, 0) = "
            + heldByFirstDraws(20, 0));
        edge("the LOOKS that were told stay", pair + "seeds(20, 5) & walker(0, 5) = 1 & walker(1, 5) = 0 & holds() = 0");
        edge("nobody", "seeds(20, 7) = 0");
        edge("all of eight", "'c40;d120;wp0,1,1000;wp3,1,1000;wp4,1,1000;wp5,1,1000;' & "
            + "'wp6,1,1000;wp7,1,1000;wp8,1,1000;wp9,1,1000;' & seeds(1, 3) = 7 & seeds(20, 3) = 140");
        edge("the least n", pair + "custom(4) & seeds(1, 3) = 1");
        edge("the greatest n", pair + "custom(4) & seeds(20, 3) = 20");
        for (String z : new String[] {"0", "min", "max"}) {
            edge("below", pair + "seeds(0, " + z + ") = -4");
            edge("far below", pair + "seeds(min, " + z + ") = -4");
            edge("above", pair + "seeds(21, " + z + ") = -6");
            edge("far above", pair + "seeds(max, " + z + ") = -6");
        }
    }

    private static int heldByFirstDraws(int n, int z) {
        long seed = z & 0xffffffffL;
        int held = 0;
        for (int draw = 0; draw < 2 * n; draw++) {
            seed = (seed * 1664525 + 1013904223) % 4294967296L;
            held += draw % 2 == 0 ? (int) (seed % 2147483648L / 256 % 2) : 0;
        }
        return held;
    }

    private void row() {
        edge("the least", "row(0) = 1");
        edge("the greatest", "row(9) = 1");
        edge("below", "row(-1) = -4");
        edge("far below", "row(min) = -4");
        edge("above", "row(10) = -6");
        edge("far above", "row(max) = -6");
        edge("the eighth", "7 x row(9) & row(9) = 8");
        edge("the ninth", "8 x row(9) & row(9) = -6");
        edge("the ninth, below", "8 x row(9) & row(-1) = -4");
        edge("the ninth, above", "8 x row(9) & row(10) = -6");
        edge("the ninth is not there", "8 x row(9) & row(9) = -6 & count(7) = 8");
        edge("nobody, no row", "judge() = -9");
        edge("nobody, a row: too long", "row(0) & judge() = 0");
        edge("nobody, a full row", "8 x row(0) & judge() = 0");
        edge("eight, no row: too short", EIGHT + " & judge() = 0");
        String seven = EIGHT + " & row(0) & row(1) & row(2) & row(3) & row(4) & row(5) & row(6) & ";
        edge("eight, as it is", seven + "row(7) & judge() = -9");
        edge("eight, the last not so", seven + "row(8) & judge() = 7");
        edge("eight, one too short", seven + "judge() = 7");
        edge("eight, the first not so", EIGHT + " & 8 x row(1) & judge() = 0");
        edge("the row has none then", seven + "row(7) & judge() = -9 & count(7) = 0 & judge() = 0");
        edge("nor when it is not so", seven + "judge() = 7 & count(7) = 0");
        edge("room again", "8 x row(9) & judge() = 0 & row(9) = 1");
        String pair = "'wp0,9,1000;wp0,1,1000;' & ";
        edge("as it is", pair + "row(1) & row(0) & judge() = -9");
        edge("too short", pair + "row(1) & judge() = 1");
        edge("too long", pair + "row(1) & row(0) & row(0) & judge() = 2");
        edge("too long by six", pair + "row(1) & row(0) & 6 x row(9) & judge() = 2");
        edge("not so and too long", pair + "row(1) & row(1) & row(0) & judge() = 1");
        edge("not so and too short", pair + "row(0) & judge() = 0");
    }

    private void image() {
        edge("there is none", "on() = -3");
        edge("there is none, again", "on() = -3 & on() = -3 & count(13) = 2");
        edge("of nobody", "image() = 0 & on() = 0");
        edge("of eight", EIGHT + " & image() = 8 & on() = 8");
        edge("on from nobody", "image() & " + EIGHT + " & on() = 0 & count(0) = 0");
        edge("nobody then", "image() & " + EIGHT + " & on() & walker(0, 0) = -1");
        edge("room again for eight", "image() & " + EIGHT + " & on() & " + EIGHT + " & count(0) = 8");
        edge("on to eight", EIGHT + " & image() & 'd999;c640;' & on() = 8 & count(1) = 4 & count(4) = 1 & count(5) = 5");
        edge("walkers as then", EIGHT + " & image() & on() & walker(7, 2) = 8 & walker(1, 5) = 1 & loss(-1) = 1");
        edge("FILMS as then: none", "image() & 10 x film(1, 0, 0, 1) & on() & count(6) = 0 & fitting(1, 0) = 41");
        edge("FILMS as then: ten", "10 x film(1, 0, 0, 1) & image() & on() & count(6) = 10 & film(1, 0, 0, 1) = -6");
        edge("each number of the door as then", "set(0, 9) & set(1, 9) & set(2, 9) & set(3, 40) & custom(6) & image() & 'd100;c00;' & "
            + "on() & count(1) = 9 & count(2) = 9 & count(3) = 9 & count(4) = 6 & count(5) = 40");
        edge("not the ROW", "row(3) & image() & row(4) & on() & count(7) = 2");
        edge("nor a ROW that is judged", "row(3) & image() & judge() & on() & count(7) = 0");
        edge("not the letters", "tell 'd' & image() & tell '111' & on() & count(8) = 4 & letter(59) = 5 & way() = 1");
        edge("nor letters that came", "tell 'd111;' & image() & way() = 1 & on() & count(8) = 0 & count(1) = 4");
        edge("on twice", EIGHT + " & image() & 'd999;' & on() = 8 & 'd888;' & on() = 8 & count(1) = 4");
        edge("a later image", "image() & 'd999;' & image() & 'd888;' & on() & count(1) = 9");
        edge("what is in mind is not in the image", EIGHT + " & image() & bestFar() & alone(0) & seeds(3, 3) & on() & count(0) = 8 & count(5) = 5");
    }

    private void counts() {
        for (String what : new String[] {"-1", "9", "10", "17", "18", "min", "max"}) {
            edge("another what", "count(" + what + ") = -9");
        }
        edge("full", EIGHT + " & 10 x film(1, 0, 0, 0) & 8 x row(0) & 80 x letter(0) & count(0) = 8 & count(6) = 10 & count(7) = 8 & count(8) = 80");
        edge("-5 never", "count(15) = 0");
    }

    /** Each question is the first behind what is told, and the first behind each change, whatever was asked before it. */
    private void questions() {
        String told = "'d429;wp0,10,2003;wr0,16,2012;' & ";
        String[] asked = {"holds() = 1", "longest() = 1", "away() = 8", "open() = 7", "coals() = 63", "bestFar() = 0",
            "bestCustom() = 0", "bestShuts() = 1", "worse() = 3", "followed() = 2", "porter() = 6", "byOther(0, 5) = 6",
            "alone(0) = 4", "alone(1) = 6", "seeds(20, 9) = 20", "loss(-1) = 10", "loss(0) = 9", "loss(1) = 1",
            "order(0) = 0", "order(1) = 1", "there(1) = 8", "comes(1) = 8", "through(0) = 7", "through(1) = 8",
            "opens(0) = 2", "opens(1) = 0", "stands(0) = 1", "stands(1) = 0", "by(0) = -9", "by(1) = 0", "runs(0) = 0",
            "runs(1) = 1", "judge() = 0", "far(0, 1, 0) = 5", "walker(1, 7) = 4"};
        // What is told in the end, by a detour and straight on.
        String[][] changes = {{"custom(0)", "c05;"}, {"custom(4)", "c405;"}, {"set(0, 1)", "d129;"}, {"set(1, 7)", "d479;"},
            {"set(2, 3)", "d423;"}, {"set(3, 1)", "c11;"}, {"'wb0,24,2101;'", "wb0,24,2101;"}, {"on()", ""}};
        for (String question : asked) {
            String call = question.substring(0, question.indexOf(" = "));
            edge("the first question", told + question);
            edge("behind an image, and on from it", told + "image() & 'c00;d199;wo0,1,1109;' & " + call + " & on() & " + question);
            for (String[] change : changes) {
                List<Step> straight = Step.all(told + (change[1].isEmpty() ? "" : "'" + change[1] + "' & ") + call);
                int due = go(call, straight, new DoorIsHeld());
                edge("behind a change", told + "image() & " + call + " & " + change[0] + " & " + call + " = " + due);
            }
        }
    }

    // ---- how a case is tried ----

    private void edge(String sentence, String text) {
        List<Step> steps = Step.all(text);
        String call = sentence + ": " + text;
        cases++;
        byItself(call, steps);
        withATwin(call, steps);
        asTheLast(call, steps);
    }

    /** All steps but the last are called on each of the doors, and then the last on the first door alone. */
    private int go(String call, List<Step> steps, DoorIsHeld... doors) {
        for (int i = 0; i < steps.size() - 1; i++) {
            for (DoorIsHeld door : doors) {
                one(call, steps.get(i), door);
            }
        }
        return one(call, steps.get(steps.size() - 1), doors[0]);
    }

    private int one(String call, Step step, DoorIsHeld door) {
        int got = step.on(door);
        if (step.due() != null) {
            check.due(call + ", " + step.name() + Arrays.toString(step.numbers()), got, step.due());
        }
        return got;
    }

    private void byItself(String call, List<Step> steps) {
        go(call + " (new)", steps, new DoorIsHeld());
    }

    private void withATwin(String call, List<Step> steps) {
        String name = call + " (amid others)";
        DoorIsHeld door = new DoorIsHeld();
        DoorIsHeld twin = new DoorIsHeld();
        Step last = steps.get(steps.size() - 1);
        int ahead = Math.max(0, Math.min(150, CALLS - steps.size() - 200));
        callOthers(door, ahead, asksForAnImage(steps), cases);
        callOthers(twin, ahead, asksForAnImage(steps), cases);
        go(name, steps, door, twin);
        int refused = last.isRefused() ? 10 - last.due() : -1;
        for (int what = 11; what <= 16; what++) {
            int due = twin.count(what) + (what == refused ? 1 : 0);
            check.due(name + ", count(" + what + ") behind it", door.count(what), due);
        }
        if (!last.changes() || last.isRefused()) {
            check.holds(name + ": nothing else changed", all(door).equals(all(twin)));
        }
    }

    private void asTheLast(String call, List<Step> steps) {
        DoorIsHeld door = new DoorIsHeld();
        callOthers(door, CALLS - steps.size(), asksForAnImage(steps), 1000 + cases);
        go(call + " (as the 512th call)", steps, door);
    }

    /** Whether a step needs that no image has been taken before. */
    private static boolean asksForAnImage(List<Step> steps) {
        return steps.get(0).name().equals("on");
    }

    /** So many calls of all sorts, behind which the object is as new but for the refusals. */
    private void callOthers(DoorIsHeld door, int calls, boolean withoutImage, int seed) {
        Random random = new Random(seed);
        int left = calls;
        if (left < 10 || withoutImage) {
            while (left-- > 0) {
                ask(door, random);
            }
            return;
        }
        door.image();
        left -= 4;
        while (left > 0) {
            left -= random.nextInt(8) == 0 ? tell(door, random, left) : any(door, random);
        }
        door.on();
        door.way();
        door.judge();
    }

    /** A call that only asks, or that is refused. */
    private void ask(DoorIsHeld door, Random random) {
        String name = names.get(random.nextInt(names.size()));
        if (Step.CHANGING.contains(name)) {
            door.set(7, 7);
        } else {
            Step.call(door, name, someNumbers(name, random));
        }
    }

    private int any(DoorIsHeld door, Random random) {
        String name = names.get(random.nextInt(names.size()));
        if (name.equals("image")) {
            name = "holds";
        }
        Step.call(door, name, someNumbers(name, random));
        return 1;
    }

    private static int[] someNumbers(String name, Random random) {
        int[] numbers = new int[Step.METHODS.get(name).getParameterCount()];
        for (int i = 0; i < numbers.length; i++) {
            numbers[i] = NUMBERS[random.nextInt(NUMBERS.length)];
        }
        return numbers;
    }

    private static int tell(DoorIsHeld door, Random random, int most) {
        String text = WAYS[random.nextInt(WAYS.length)];
        int calls = 1;
        for (int i = 0; i < text.length() && calls < most; i++) {
            door.letter(text.charAt(i));
            calls++;
        }
        door.way();
        return calls;
    }

    /** All that can be asked of an object but the refusals; behind that its letters, its row, its image. */
    private static List<Integer> all(DoorIsHeld door) {
        List<Integer> answers = new ArrayList<>();
        told(door, answers);
        for (int w = 0; w < 8; w++) {
            answers.addAll(List.of(door.order(w), door.comes(w), door.through(w), door.opens(w), door.stands(w),
                door.by(w), door.runs(w), door.loss(w)));
        }
        answers.addAll(List.of(door.seeds(2, 77), door.open(), door.worse(), door.judge(), door.way()));
        answers.add(door.on());
        told(door, answers);
        return answers;
    }

    private static void told(DoorIsHeld door, List<Integer> answers) {
        for (int what = 0; what <= 8; what++) {
            answers.add(door.count(what));
        }
        for (int custom = 1; custom <= 3; custom++) {
            answers.addAll(List.of(door.fitting(custom, 0), door.fitting(custom, 1), door.fitting(custom, 2)));
        }
        for (int w = 0; w < door.count(0); w++) {
            for (int what = 0; what <= 6; what++) {
                answers.add(door.walker(w, what));
            }
        }
    }
}
