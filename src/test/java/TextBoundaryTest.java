import java.util.ArrayList;
import java.util.List;

/**
 * The document's boundary cases of THE TEXT (promises 1 to 4), a sentence at a time: the last
 * that is taken, the first that is refused, and that nothing changes by what is refused.
 */
public final class TextBoundaryTest {
    private static final int BAD = -1, STATE = -2, FULL = -3, NONE = -9;
    private static final int LOW = Integer.MIN_VALUE, HIGH = Integer.MAX_VALUE;
    private static final int TEXT = 120, TRACE_IN_PRINT = 5;
    private static String sentence = "";
    private static int sentences = 0, wrong = 0;

    public static void main(String[] args) {
        newObject();
        letters();
        fullText();
        emptyText();
        longTexts();
        places();
        tops();
        placesOfTops();
        placesAreUnlike();
        spins();
        dragsTold();
        slow();
        placesComeFirst();
        slowOnce();
        zeroAhead();
        above99();
        otherLetters();
        blanks();
        theFirstFault();
        endsTooEarly();
        itemsEnd();
        anew();
        anewFromNothing();
        System.out.println(wrong == 0 ? sentences + " sentences hold" : wrong + " answers are not as due");
        if (wrong != 0) {
            System.exit(1);
        }
    }

    // ---- how it is looked at

    private static void says(String words) {
        sentence = words;
        sentences++;
    }

    private static void due(String call, long got, long want) {
        if (got != want) {
            wrong++;
            System.out.println("[" + sentence + "] " + call + " answered " + got + ", due is " + want);
        }
    }

    private static SpinTops typed(SpinTops x, String text) {
        for (int i = 0; i < text.length(); i++) {
            x.type(text.charAt(i));
        }
        return x;
    }

    /** A tray on which something was done, seen and kept, so that a change of any of it shows. */
    private static SpinTops used() {
        SpinTops x = typed(new SpinTops(), "n5;l9;t1 9 4;t3 4 4;");
        x.tray();
        x.tilts(1);
        x.keep(1);
        x.beats();
        x.sees(9, 1, 5);
        x.rate(3, 0);
        return x;
    }

    /** All that can be asked of an object; what was told, done and kept is used up by it. */
    private static List<Long> print(SpinTops x) {
        List<Long> all = new ArrayList<>();
        for (int what = 0; what <= 4; what++) {
            all.add((long) x.count(what));
        }
        all.add(x.trace());
        for (int what = 0; what <= 2; what++) {
            all.add((long) x.drags(what));
        }
        for (int place = 0; place < 10; place++) {
            all.add((long) x.at(place));
        }
        printNow(x, all);
        for (int i = 0; i < 4; i++) {
            all.add((long) x.undo());
            printNow(x, all);
        }
        for (int image = 0; image <= 1; image++) {
            all.add((long) x.back(image));
            printNow(x, all);
        }
        all.add((long) x.tray());
        all.add((long) x.clear());
        return all;
    }

    private static void printNow(SpinTops x, List<Long> all) {
        for (int what = 0; what <= 5; what++) {
            all.add((long) x.now(what));
        }
        for (int t = 0; t < 3; t++) {
            for (int what = 0; what <= 4; what++) {
                all.add((long) x.top(t, what));
            }
        }
    }

    private static void fault(String text, int place) {
        SpinTops x = typed(used(), text);
        due("tray() of \"" + text + "\"", x.tray(), -10 - place);
        due("letters behind the fault of \"" + text + "\"", x.count(4), text.length());
        boolean same = print(x).equals(print(typed(used(), text)));
        due("nothing changes by the fault of \"" + text + "\"", same ? 1 : 0, 1);
    }

    private static SpinTops items(String text, int items) {
        SpinTops x = typed(used(), text);
        due("tray() of \"" + text + "\"", x.tray(), items);
        due("letters behind \"" + text + "\"", x.count(4), 0);
        return x;
    }

    /** A number's place in a text: these alone are taken, all others are a fault at their place. */
    private static void numbers(String ahead, String behind, int least, int most, int items) {
        for (int number = 0; number <= 130; number++) {
            String text = ahead + number + behind;
            if (number >= least && number <= most) {
                items(text, items);
            } else {
                fault(text, ahead.length());
            }
        }
    }

    private static String row(int times, String text) {
        return text.repeat(times);
    }

    // ---- promises 1 to 3

    private static void newObject() {
        says("1: As told; no TOPS (PLACES: 8 at first; SLOW: 10 at first; TILT is 0 at first; THE TRACE 0 at first)");
        SpinTops x = new SpinTops();
        int[] counts = {8, 0, 10, 0, 0};
        for (int what = 0; what <= 4; what++) {
            due("count(" + what + ")", x.count(what), counts[what]);
        }
        int[] nows = {0, 0, 0, 0, NONE, 0};
        for (int what = 0; what <= 5; what++) {
            due("now(" + what + ")", x.now(what), nows[what]);
        }
        due("trace()", x.trace(), 0);
        due("undo()", x.undo(), STATE);
        due("back(0)", x.back(0), STATE);
        due("back(1)", x.back(1), STATE);
        due("forget()", x.forget(), 0);
        due("clear()", x.clear(), 0);
        due("top(0, 0)", x.top(0, 0), BAD);
        due("at(7)", x.at(7), NONE);
        due("at(8)", x.at(8), BAD);
    }

    private static void letters() {
        says("2: A letter (0 .. 255) comes to THE TEXT: how many it has. BAD");
        SpinTops x = new SpinTops();
        int had = 0;
        for (int letter : new int[] {-1, 256, LOW, HIGH, -256}) {
            due("type(" + letter + ")", x.type(letter), BAD);
            due("letters", x.count(4), had);
        }
        for (int letter : new int[] {0, 255, 1, 254, 128, 127}) {
            had++;
            due("type(" + letter + ")", x.type(letter), had);
            due("letters", x.count(4), had);
        }
        due("type(256)", x.type(256), BAD);
        due("clear()", x.clear(), had);
        due("type(0) behind clear()", x.type(0), 1);
    }

    private static void fullText() {
        says("2: 120 letters at most; FULL");
        SpinTops x = new SpinTops();
        String text = row(113, " ") + "t7 9 1;";
        for (int i = 0; i < TEXT; i++) {
            due("type", x.type(text.charAt(i)), i + 1);
        }
        due("the 121st", x.type(';'), FULL);
        due("the 121st", x.type(0), FULL);
        due("the 121st", x.type(255), FULL);
        due("BAD ahead of FULL", x.type(256), BAD);
        due("BAD ahead of FULL", x.type(-1), BAD);
        due("letters", x.count(4), TEXT);
        due("tray() of a full text", x.tray(), 1);
        due("place", x.top(0, 0), 7);
        due("type behind tray()", x.type(' '), 1);
        typed(x, row(119, " "));
        due("the 121st again", x.type(' '), FULL);
        due("clear() of a full text", x.clear(), TEXT);
        due("type behind clear()", x.type(' '), 1);
    }

    private static void emptyText() {
        says("3: THE TEXT is empty: how many letters it had");
        SpinTops x = used();
        due("clear()", x.clear(), 0);
        due("letters", x.count(4), 0);
        typed(x, "l31;");
        due("clear()", x.clear(), 4);
        due("letters", x.count(4), 0);
        due("clear()", x.clear(), 0);
        boolean same = print(x).equals(print(used()));
        due("clear() changes nothing but THE TEXT", same ? 1 : 0, 1);
        typed(x, "l31;");
        x.clear();
        typed(x, "l30;");
        due("tray() of what was typed behind clear()", x.tray(), 1);
        due("slow", x.count(2), 30);
    }

    // ---- promise 4: what may be told

    private static void longTexts() {
        says("4: 120 letters at most: faults in a full text");
        fault(row(119, " ") + "x", 119);
        fault(row(119, " ") + ";", 119);
        fault(row(119, " ") + "t", TEXT);
        fault("l" + row(119, " "), TEXT);
        fault("l" + row(118, " ") + "5", TEXT);
        items(row(TEXT, " "), 0);
        items("l" + row(117, " ") + "5;", 1);
        items("n4;" + row(117, " "), 1);
    }

    private static void places() {
        says("4: n N: PLACES (4 .. 10)");
        numbers("n", ";", 4, 10, 1);
        numbers(" n ", " ;l1;", 4, 10, 2);
        for (int places = 4; places <= 10; places++) {
            SpinTops x = items("n" + places + ";", 1);
            due("places", x.count(0), places);
            due("at the last", x.at(places - 1), NONE);
            due("at one more", x.at(places), BAD);
            due("at 0", x.at(0), NONE);
            due("at -1", x.at(-1), BAD);
        }
    }

    private static void tops() {
        says("4: TOPS (6 at most); a seventh t");
        String six = "t0 1 1;t1 1 1;t2 1 1;t3 1 1;t4 1 1;t5 1 1;";
        SpinTops x = items(six, 6);
        due("tops", x.count(1), 6);
        due("the last one's place", x.top(5, 0), 5);
        due("one more", x.top(6, 0), BAD);
        due("all stand", x.now(2), 63);
        items(six + "l5;", 7);
        items("n10;" + six + "l5;", 8);
        fault(six + "t", 42);
        fault(six + " t", 43);
        fault(six + "t6 1 1;", 42);
        fault("n10;l5;" + six + "t9 1 1;", 49);
        x = items("t7 2 3;", 1);
        due("tops", x.count(1), 1);
        due("top 1", x.top(1, 0), BAD);
        x = items("t7 2 3;t0 60 9;t3 1 1;", 3);
        int[][] told = {{7, 2, 3}, {0, 60, 9}, {3, 1, 1}};
        for (int t = 0; t < 3; t++) {
            for (int what = 0; what < 3; what++) {
                due("the next TOP: top(" + t + ", " + what + ")", x.top(t, what), told[t][what]);
            }
            due("all TOPS STAND at first", x.top(t, 3), 1);
        }
    }

    private static void placesOfTops() {
        says("4: t P S D: PLACES 0 .. as many as are told less 1");
        numbers("t", " 1 1;", 0, 7, 1);
        for (int places = 4; places <= 10; places++) {
            numbers("n" + places + ";t", " 1 1;", 0, places - 1, 2);
        }
        numbers("l3;t", " 1 1;", 0, 7, 2);
    }

    private static void placesAreUnlike() {
        says("4: PLACE (unlike ones); a PLACE that is taken");
        for (int place = 0; place < 8; place++) {
            for (int other = 0; other < 8; other++) {
                String text = "t" + place + " 1 1;t" + other + " 1 1;";
                if (place == other) {
                    fault(text, 8);
                } else {
                    items(text, 2);
                }
            }
        }
        items("n4;t3 1 1;t0 1 1;t2 1 1;t1 1 1;", 5);
        for (int place = 0; place < 4; place++) {
            fault("n4;t3 1 1;t0 1 1;t2 1 1;t1 1 1;t" + place + " 1 1;", 32);
        }
        fault("t0 1 1;t1 1 1;t0", 15);
        fault("t0 1 1;t 0 x", 9);
    }

    private static void spins() {
        says("4: SPIN (1 .. 60)");
        numbers("t0 ", " 1;", 1, 60, 1);
        numbers("t0 1 1;t1  ", " 9;", 1, 60, 2);
        due("spin", items("t0 60 1;", 1).top(0, 1), 60);
        due("spin", items("t0 1 1;", 1).top(0, 1), 1);
    }

    private static void dragsTold() {
        says("4: DRAG (1 .. 9)");
        numbers("t0 1 ", ";", 1, 9, 1);
        numbers("t0 60 ", " ;", 1, 9, 1);
        due("drag", items("t0 1 9;", 1).top(0, 2), 9);
        due("drag", items("t0 60 1;", 1).top(0, 2), 1);
    }

    private static void slow() {
        says("4: l N: SLOW (0 .. 30)");
        numbers("l", ";", 0, 30, 1);
        numbers("n9;l", " ;t8 1 1;", 0, 30, 3);
        due("slow", items("l0;", 1).count(2), 0);
        due("slow", items("l30;", 1).count(2), 30);
    }

    private static void placesComeFirst() {
        says("4: n: the first of all, if it is told; n behind another ITEM");
        items("n4;l1;t0 1 1;", 3);
        due("places, if n is not told", items("l1;t0 1 1;", 2).count(0), 8);
        fault("n4;n4;", 3);
        fault("n4;n5;", 3);
        fault("l1;n4;", 3);
        fault("t0 1 1;n4;", 7);
        fault("n4;l1; n4;", 7);
        fault("n4;l1;n", 6);
    }

    private static void slowOnce() {
        says("4: l: once at most; l again");
        items("l1;t0 1 1;", 2);
        items("t0 1 1;l1;t1 1 1;", 3);
        fault("l1;l1;", 3);
        fault("l0;l10;", 3);
        fault("l10;l", 4);
        fault("l1;t0 1 1;t1 1 1;l1;", 17);
        due("slow, if l is not told", items("n4;", 1).count(2), 10);
    }

    // ---- promise 4: faults

    private static void zeroAhead() {
        says("4: a NUMBER with a 0 ahead of others: that TOKEN's");
        items("l0;", 1);
        items("t0 1 1;", 1);
        for (int digit = 0; digit <= 9; digit++) {
            fault("n0" + digit + ";", 1);
            fault("l 0" + digit + ";", 2);
            fault("t0" + digit + " 1 1;", 1);
            fault("t0 0" + digit + " 1;", 3);
            fault("t0 1 0" + digit + ";", 5);
        }
        fault("l000;", 1);
        fault("l010;", 1);
        fault("l" + row(119, "0"), 1);
        fault("l1;01", 3);
        fault("00", 0);
        items("l10;", 1);
        items("l20;t0 10 1;", 2);
    }

    private static void above99() {
        says("4: a NUMBER above 99: that TOKEN's");
        for (String number : new String[] {"99", "100", "999", "256", "4294967296", "4294967300",
            "18446744073709551620", "1" + row(60, "0"), row(100, "9")}) {
            fault("n" + number + ";", 1);
            fault("l  " + number, 3);
            fault("t0 " + number + " 1;", 3);
            fault("t0 1 " + number + ";", 5);
            fault("l1 " + number + ";", 3);
            fault("l1;" + number, 3);
        }
        fault("l4294967297;", 1);
        fault("t4294967296 1 1;", 1);
        fault("t0 4294967297 1;", 3);
    }

    private static void otherLetters() {
        says("4: TOKENS are the letters n, t, l, NUMBERS and ; . Of any other letter, that TOKEN's");
        for (int i = 0; i <= 255; i++) {
            char c = (char) i;
            boolean digit = c >= '0' && c <= '9';
            String letter = String.valueOf(c);
            either(letter, c == ' ' ? 0 : c == 'n' || c == 't' || c == 'l' ? -11 : -10);
            either("l" + letter, c == ' ' || digit ? -12 : -11);
            either("l1" + letter, c == ';' ? 1 : c == ' ' || digit ? -13 : -12);
            either("l1 " + letter, c == ';' ? 1 : c == ' ' ? -14 : -13);
            either("t0 1 1;" + letter, c == ' ' ? 1 : c == 't' || c == 'l' ? -18 : -17);
            either("t" + letter + "7 1 1;", c == ' ' ? 1 : -11);
        }
        fault("N4;", 0);
        fault("L4;", 0);
        fault("T0 1 1;", 0);
        fault("l-1;", 1);
        fault("l+1;", 1);
        fault("l1,", 2);
    }

    private static void either(String text, int answer) {
        if (answer >= 0) {
            items(text, answer);
        } else {
            fault(text, -10 - answer);
        }
    }

    private static void blanks() {
        says("4: blanks (32) between TOKENS");
        due("drag", items("   t   0   60   9   ;   ", 1).top(0, 2), 9);
        items("n4;l1;t0 1 1;", 3);
        items("n 4 ; l 1 ; t 0 1 1 ;", 3);
        fault("l1 0;", 3);
        fault("t0 1 1 1;", 7);
        fault("t011;", 1);
        fault("t0 11;", 5);
        fault("l\t1;", 1);
        fault("l\n1;", 1);
        fault("l\u00a01;", 1);
        fault("l\0", 1);
    }

    private static void theFirstFault() {
        says("4: FAULT: the place of the first letter of the first TOKEN that can't stand there");
        fault("l31;x", 1);
        fault("x l31;", 0);
        fault("l1;n4;t99", 3);
        fault("t0 1;%", 4);
        fault("l%;n4;", 1);
        fault("t0 1 1;l1;l1;t0 1 1;", 10);
        fault("  l  31;", 5);
        fault("n t", 2);
        fault("nl", 1);
        fault("n;", 1);
        fault("t;", 1);
        fault("l;", 1);
        fault("t0;", 2);
        fault("t0 1;", 4);
        fault("n4 5;", 3);
        fault("n4n", 2);
        fault("l1l", 2);
        fault("t0 1 1t", 6);
        fault("4;", 0);
        fault(";", 0);
        fault("n4;;", 3);
    }

    private static void endsTooEarly() {
        says("4: the text's length, if it ends too early");
        String text = "n4;l9;t0 12 3;t3 5 1;";
        int items = 0;
        for (int end = 0; end <= text.length(); end++) {
            String told = text.substring(0, end);
            boolean whole = end == 0 || told.endsWith(";");
            items += end > 0 && whole ? 1 : 0;
            if (whole) {
                items(told, items);
                items(told + "  ", items);
            } else {
                fault(told, end);
                fault(told + "  ", end + 2);
            }
        }
    }

    private static void itemsEnd() {
        says("4: ITEMS, each ended by ;");
        fault("n4 l1;", 3);
        fault("l1 t0 1 1;", 3);
        fault("t0 1 1 l1;", 7);
        fault("t0 1 1,", 6);
        fault(" ; ", 1);
        items("l1 ;", 1);
    }

    // ---- promise 4: anew

    private static void anew() {
        says("4: THE TEXT tells all anew, and is empty then (Read anew: as told, BEAT 0, nothing SEEN, IMAGES are gone)");
        SpinTops x = used();
        due("beat till then", x.now(0), 1);
        due("tilt till then", x.now(1), 1);
        due("tops till then", x.count(1), 2);
        due("seen till then", x.count(3), 1);
        x.keep(0);
        typed(x, "t2 3 1;");
        due("tray()", x.tray(), 1);
        due("letters", x.count(4), 0);
        int[] counts = {8, 1, 10, 0, 0};
        for (int what = 0; what <= 4; what++) {
            due("count(" + what + ")", x.count(what), counts[what]);
        }
        int[] nows = {0, 0, 1, 3, 0, 0};
        for (int what = 0; what <= 5; what++) {
            due("now(" + what + ")", x.now(what), nows[what]);
        }
        due("top 1 is no more", x.top(1, 0), BAD);
        due("where it stood", x.at(1), NONE);
        due("image 0", x.back(0), STATE);
        due("image 1", x.back(1), STATE);
        due("undo()", x.undo(), STATE);
        due("drags(0)", x.drags(0), 9);
        due("the trace stays", x.trace(), 1011);
    }

    private static void anewFromNothing() {
        says("4: a text without ITEMS tells all anew, too");
        SpinTops x = used();
        due("tray()", x.tray(), 0);
        due("tops", x.count(1), 0);
        due("places", x.count(0), 8);
        due("slow", x.count(2), 10);
        due("beat", x.now(0), 0);
        due("tilt", x.now(1), 0);
        due("tray() again", x.tray(), 0);
        List<Long> told = print(x);
        List<Long> made = print(new SpinTops());
        // THE TRACE alone is left of what was.
        told.remove(TRACE_IN_PRINT);
        made.remove(TRACE_IN_PRINT);
        due("as a new one", told.equals(made) ? 1 : 0, 1);
    }
}
