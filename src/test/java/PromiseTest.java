/** Each promise by hand: ordinary inputs, the edges that the document names, wrong inputs. */
public final class PromiseTest {
    private static final int BAD = -1, STATE = -2, FULL = -3, NONE = -9, NO = -1000000;
    private static final int LOW = Integer.MIN_VALUE, HIGH = Integer.MAX_VALUE;
    private static int wrong = 0;

    public static void main(String[] args) {
        promise1();
        promise2();
        promise3();
        promise4Items();
        promise4Faults();
        promise4Anew();
        promise5();
        promise6();
        promise7();
        promise8Spin();
        promise8Meet();
        promise8Turns();
        promise9();
        promise10();
        promise11();
        promise12();
        promise13();
        promise14();
        promise15();
        promise16();
        promise17And18();
        promise19();
        promise20();
        promise21And25();
        promise22And23();
        promise24();
        nothingAheadChangesAnything();
        System.out.println(wrong == 0 ? "all promises hold" : wrong + " answers are not as due");
        if (wrong != 0) {
            System.exit(1);
        }
    }

    private static void due(String call, long got, long want) {
        if (got != want) {
            wrong++;
            System.out.println(call + " answered " + got + ", due is " + want);
        }
    }

    private static void type(SpinTops x, String text) {
        for (int i = 0; i < text.length(); i++) {
            x.type(text.charAt(i));
        }
    }

    private static SpinTops told(String text) {
        SpinTops x = new SpinTops();
        type(x, text);
        int items = x.tray();
        if (items < 0) {
            wrong++;
            System.out.println("\"" + text + "\" was not read: " + items);
        }
        return x;
    }

    private static void fault(String text, int place) {
        SpinTops x = told("n5;t1 9 4;");
        type(x, text);
        due("1: tray() of \"" + text + "\"", x.tray(), -10 - place);
        due("1: places behind \"" + text + "\"", x.count(0), 5);
        due("1: spin behind \"" + text + "\"", x.top(0, 1), 9);
        due("1: letters behind \"" + text + "\"", x.clear(), text.length());
    }

    private static void top(SpinTops x, int t, int place, int spin) {
        due("place of " + t, x.top(t, 0), place);
        due("spin of " + t, x.top(t, 1), spin);
        due("whether it stands, of " + t, x.top(t, 3), place == NONE ? 0 : 1);
    }

    private static void promise1() {
        SpinTops x = new SpinTops();
        due("BAD", SpinTops.BAD, -1);
        due("STATE", SpinTops.STATE, -2);
        due("FULL", SpinTops.FULL, -3);
        due("NONE", SpinTops.NONE, -9);
        due("NO", SpinTops.NO, -1000000);
        due("new: places", x.count(0), 8);
        due("new: tops", x.count(1), 0);
        due("new: slow", x.count(2), 10);
        due("new: seen", x.count(3), 0);
        due("new: letters", x.count(4), 0);
        for (int what = 0; what <= 5; what++) {
            due("new: now(" + what + ")", x.now(what), what == 4 ? NONE : 0);
        }
        due("new: trace", x.trace(), 0);
        due("new: top", x.top(0, 0), BAD);
        due("new: back", x.back(0), STATE);
        due("new: undo", x.undo(), STATE);
        due("new: at(7)", x.at(7), NONE);
        due("new: at(8)", x.at(8), BAD);
    }

    private static void promise2() {
        SpinTops x = new SpinTops();
        due("type(-1)", x.type(-1), BAD);
        due("type(256)", x.type(256), BAD);
        due("type(LOW)", x.type(LOW), BAD);
        for (int i = 1; i <= 120; i++) {
            due("type", x.type(i == 1 ? 0 : i == 2 ? 255 : ' '), i);
        }
        due("type, the 121st", x.type(' '), FULL);
        due("type, bad ahead of full", x.type(256), BAD);
        due("letters", x.count(4), 120);
    }

    private static void promise3() {
        SpinTops x = new SpinTops();
        due("clear of nothing", x.clear(), 0);
        type(x, "abc");
        due("clear", x.clear(), 3);
        due("clear again", x.clear(), 0);
        due("tray of nothing", x.tray(), 0);
    }

    private static void promise4Items() {
        SpinTops x = told("  n10;t9 60 9 ;l0; t 0 1 1;");
        due("places", x.count(0), 10);
        due("tops", x.count(1), 2);
        due("slow", x.count(2), 0);
        due("letters", x.count(4), 0);
        due("drag of 0", x.top(0, 2), 9);
        due("drag of 1", x.top(1, 2), 1);
        top(x, 0, 9, 60);
        top(x, 1, 0, 1);
        type(x, "l30;");
        due("tray, one item", x.tray(), 1);
        due("places at first", x.count(0), 8);
        due("tops", x.count(1), 0);
        due("slow", x.count(2), 30);
        type(x, "   ");
        due("tray, blanks alone", x.tray(), 0);
        due("slow at first", x.count(2), 10);
        due("letters", x.count(4), 0);
        type(x, "n4;t3 1 1;t0 1 1;t2 1 1;t1 1 1;");
        due("tray, all places taken", x.tray(), 5);
    }

    private static void promise4Faults() {
        fault("n3;", 1);
        fault("n11;", 1);
        fault("n4;n4;", 3);
        fault("t0 1 1;n4;", 7);
        fault("l1;l1;", 3);
        fault("l31;", 1);
        fault("n4;t4 1 1;", 4);
        fault("t8 1 1;", 1);
        fault("t0 0 1;", 3);
        fault("t0 61 1;", 3);
        fault("t0 1 0;", 5);
        fault("t0 1 10;", 5);
        fault("t0 1;", 4);
        fault("t0 1 1 1;", 7);
        fault("t3 1 1;t3 1 1;", 8);
        fault("t0 1 1;t1 1 1;t2 1 1;t3 1 1;t4 1 1;t5 1 1;t6 1 1;", 42);
        fault("n", 1);
        fault("n  ", 3);
        fault("n5", 2);
        fault("t0 1 1", 6);
        fault(";", 0);
        fault(" ;", 1);
        fault("l1;;", 3);
        fault("5;", 0);
        fault("N5;", 0);
        fault("l 05;", 2);
        fault("l00;", 1);
        fault("l100;", 1);
        fault("l4294967297;", 1);
        fault("l1.", 2);
        fault("l1\t;", 2);
        fault("l1 2;", 3);
        fault("nn5;", 1);
        fault("l1t;", 2);
        fault("l\u00ff", 1);
        fault("l1;x l1;", 3);
        fault("t0 1 1;t0 x", 8);
    }

    private static void promise4Anew() {
        SpinTops x = told("n5;t1 9 4;");
        x.tilts(1);
        x.beats();
        x.keep(0);
        x.keep(1);
        x.sees(9, 1, 8);
        x.rate(0, 0);
        type(x, "t2 3 1");
        due("tray, too early", x.tray(), -16);
        due("a fault leaves the beat", x.now(0), 1);
        due("a fault leaves what is seen", x.count(3), 1);
        due("a fault leaves what may be undone", x.now(5), 2);
        due("a fault leaves the images", x.back(1), 1);
        x.whips(0, 1);
        type(x, ";");
        due("tray", x.tray(), 1);
        due("anew: beat", x.now(0), 0);
        due("anew: tilt", x.now(1), 0);
        due("anew: undone", x.now(5), 0);
        due("anew: undo", x.undo(), STATE);
        due("anew: seen", x.count(3), 0);
        due("anew: image 0", x.back(0), STATE);
        due("anew: image 1", x.back(1), STATE);
        due("anew: the trace stays", x.trace(), 1);
        top(x, 0, 2, 3);
    }

    private static void promise5() {
        SpinTops x = told("t2 9 4;t5 60 1;");
        due("fall, rounded up", x.top(0, 4), 3);
        due("fall, the longest", x.top(1, 4), 60);
        for (int t : new int[] {-1, 2, 6, LOW, HIGH}) {
            due("top(" + t + ", 0)", x.top(t, 0), BAD);
        }
        for (int what : new int[] {-1, 5, LOW, HIGH}) {
            due("top(0, " + what + ")", x.top(0, what), BAD);
        }
        x.beats();
        x.beats();
        due("fall, later", x.top(0, 4), 1);
        x.beats();
        top(x, 0, NONE, 0);
        due("fall of one that lies", x.top(0, 4), 0);
        due("drag of one that lies", x.top(0, 2), 4);
    }

    private static void promise6() {
        SpinTops x = told("n4;t3 1 1;t0 9 1;");
        due("at(3)", x.at(3), 0);
        due("at(0)", x.at(0), 1);
        due("at(1)", x.at(1), NONE);
        due("at(4)", x.at(4), BAD);
        due("at(-1)", x.at(-1), BAD);
        due("at(HIGH)", x.at(HIGH), BAD);
        x.beats();
        due("at(3), fallen", x.at(3), NONE);
    }

    private static void promise7() {
        SpinTops x = told("t0 8 2;t1 4 1;t2 3 3;");
        due("standing", x.now(2), 7);
        due("spins", x.now(3), 15);
        due("last, the lowest of several", x.now(4), 0);
        due("tilts(2)", x.tilts(2), 0);
        x.beats();
        due("beat", x.now(0), 1);
        due("tilt", x.now(1), 2);
        due("undone", x.now(5), 2);
        due("now(6)", x.now(6), BAD);
        due("now(-1)", x.now(-1), BAD);
        x = told("t0 1 1;t3 2 1;");
        due("last", x.now(4), 1);
        x.beats();
        due("last", x.now(4), 1);
        x.beats();
        due("last, none stands", x.now(4), NONE);
    }

    private static void promise8Spin() {
        SpinTops x = told("t0 3 3;t1 4 3;t2 2 3;");
        due("beats, two fall", x.beats(), 2);
        top(x, 0, NONE, 0);
        top(x, 1, 1, 1);
        top(x, 2, NONE, 0);
        x = told("l9;t0 12 2;t7 11 2;t4 60 1;");
        x.tilts(1);
        due("beats, slow of 9 goes on", x.beats(), 1);
        top(x, 0, 0, 5);
        top(x, 1, NONE, 0);
        x = told("n4;l9;t3 10 1;t0 12 2;");
        x.tilts(2);
        x.beats();
        top(x, 0, 2, 9);
        top(x, 1, 0, 10);
        x.beats();
        top(x, 0, 1, 8);
        top(x, 1, 3, 8);
        x = told("t3 5 1;");
        x.beats();
        top(x, 0, 3, 4);
    }

    private static void promise8Meet() {
        SpinTops x = told("l30;t2 10 1;t3 40 1;");
        x.tilts(1);
        due("the slower that comes falls", x.beats(), 1);
        top(x, 0, NONE, 0);
        top(x, 1, 3, 34);
        x = told("l20;t2 20 1;t3 10 1;");
        x.tilts(1);
        due("the slower that is there falls", x.beats(), 1);
        top(x, 0, 3, 14);
        top(x, 1, NONE, 0);
        x = told("l9;t2 10 1;t3 18 9;");
        x.tilts(1);
        due("of like ones he who comes falls", x.beats(), 1);
        top(x, 0, NONE, 0);
        top(x, 1, 4, 4);
        x = told("t2 6 1;t3 5 1;");
        x.tilts(1);
        due("both fall: the comer wins with 5", x.beats(), 2);
        due("nobody", x.now(2), 0);
        x = told("t2 5 1;t3 6 1;");
        x.tilts(1);
        due("both fall: the other one wins with 5", x.beats(), 2);
        x = told("t2 7 1;t3 6 1;");
        x.tilts(1);
        due("the comer wins with 6", x.beats(), 1);
        top(x, 0, 3, 1);
    }

    private static void promise8Turns() {
        SpinTops x = told("t1 9 1;t2 14 1;");
        x.tilts(1);
        due("who is knocked slow goes in its turn", x.beats(), 1);
        top(x, 1, 3, 8);
        x = told("t2 14 1;t1 9 1;");
        x.tilts(1);
        due("a lower one's turn is over", x.beats(), 1);
        top(x, 0, 2, 8);
        x = told("t3 9 1;t2 8 1;");
        x.tilts(1);
        due("who went first is there no more", x.beats(), 0);
        top(x, 0, 4, 8);
        top(x, 1, 3, 7);
        x = new SpinTops();
        due("beats of no tops", x.beats(), 0);
        due("the beat", x.now(0), 1);
        for (int i = 1; i < 999; i++) {
            x.beats();
        }
        due("beats, the 1000th", x.beats(), STATE);
        due("the beat", x.now(0), 999);
    }

    private static void promise9() {
        SpinTops x = told("t0 5 5;t1 50 1;");
        due("whips(0, 1)", x.whips(0, 1), 6);
        due("whips(0, 20)", x.whips(0, 20), 26);
        due("whips to 60", x.whips(1, 11), 60);
        due("whips of 60", x.whips(1, 1), 60);
        due("may be undone", x.now(5), 4);
        for (int k : new int[] {0, 21, -1, LOW, HIGH}) {
            due("whips(0, " + k + ")", x.whips(0, k), BAD);
        }
        due("whips(2, 1)", x.whips(2, 1), BAD);
        due("whips(-1, 1)", x.whips(-1, 1), BAD);
        for (int i = 0; i < 6; i++) {
            x.beats();
        }
        due("whips of one that lies", x.whips(0, 1), STATE);
        due("whips, bad first", x.whips(0, 0), BAD);
        top(x, 0, NONE, 0);
    }

    private static void promise10() {
        SpinTops x = new SpinTops();
        due("tilts(0)", x.tilts(0), STATE);
        due("tilts(3)", x.tilts(3), BAD);
        due("tilts(-1)", x.tilts(-1), BAD);
        due("tilts(2)", x.tilts(2), 0);
        due("tilts(2)", x.tilts(2), STATE);
        due("tilts(1)", x.tilts(1), 2);
        due("tilts(0)", x.tilts(0), 1);
        due("may be undone", x.now(5), 3);
    }

    private static void promise11() {
        SpinTops x = told("n5;t0 1 1;t1 9 1;");
        due("sets(0, 4)", x.sets(0, 4), 0);
        due("at(4)", x.at(4), 0);
        due("at(0)", x.at(0), NONE);
        due("sets(0, 4), where it is", x.sets(0, 4), STATE);
        due("sets(0, 1), taken", x.sets(0, 1), STATE);
        due("sets(0, 5)", x.sets(0, 5), BAD);
        due("sets(0, -1)", x.sets(0, -1), BAD);
        due("sets(2, 0)", x.sets(2, 0), BAD);
        due("sets(-1, 0)", x.sets(-1, 0), BAD);
        due("may be undone", x.now(5), 1);
        x.beats();
        due("sets of one that lies", x.sets(0, 2), STATE);
        due("sets where one lay", x.sets(1, 4), 1);
    }

    private static void promise12() {
        SpinTops x = told("l30;t0 9 2;t1 2 1;t5 1 1;");
        x.tilts(1);
        x.beats();
        x.whips(0, 20);
        x.sets(0, 4);
        x.sees(9, 1, 8);
        due("undo sets", x.undo(), 3);
        top(x, 0, 1, 22);
        due("undo whips", x.undo(), 2);
        top(x, 0, 1, 2);
        due("undo beats", x.undo(), 1);
        top(x, 0, 0, 9);
        top(x, 1, 1, 2);
        top(x, 2, 5, 1);
        due("the beat", x.now(0), 0);
        due("undo tilts", x.undo(), 0);
        due("tilt", x.now(1), 0);
        due("undo nothing", x.undo(), STATE);
        due("seen stays", x.count(3), 1);
        for (int i = 0; i < 13; i++) {
            x.tilts(1 + i % 2);
            x.tilts(1 + i % 2);
        }
        due("ten are known", x.now(5), 10);
        for (int i = 9; i >= 0; i--) {
            due("undo", x.undo(), i);
        }
        due("older ones are lost", x.undo(), STATE);
        due("tilt of the third", x.now(1), 1);
    }

    private static void promise13() {
        SpinTops x = told("t0 1 1;t1 60 1;t2 6 2;");
        due("stand(0)", x.stand(0), 7);
        due("stand(1)", x.stand(1), 6);
        due("stand(3)", x.stand(3), 2);
        due("stand(59)", x.stand(59), 2);
        due("stand(60)", x.stand(60), 0);
        due("stand(61)", x.stand(61), BAD);
        due("stand(-1)", x.stand(-1), BAD);
        x = told("t0 9 1;t1 30 1;");
        x.tilts(1);
        due("stand, tilted", x.stand(1), 2);
    }

    private static void promise14() {
        SpinTops x = told("t0 9 1;t2 2 1;t4 2 1;");
        due("whip, the lowest of several", x.whip(1, 2), 1);
        due("whip, all alike", x.whip(20, 0), 0);
        due("whip, nobody is saved", x.whip(1, 60), 0);
        due("whip(0, 0)", x.whip(0, 0), BAD);
        due("whip(21, 0)", x.whip(21, 0), BAD);
        due("whip(1, 61)", x.whip(1, 61), BAD);
        due("whip(1, -1)", x.whip(1, -1), BAD);
        x = told("t0 1 1;t1 5 1;");
        x.beats();
        due("whip, one that lies is not asked", x.whip(1, 60), 1);
        x = told("t0 55 1;t4 50 1;");
        due("whip, 60 at most", x.whip(20, 59), 0);
        due("whip, 60 at most", x.whip(20, 60), 0);
        due("whip of none", new SpinTops().whip(1, 1), NONE);
    }

    private static void promise15() {
        SpinTops x = told("n4;l30;t0 20 1;t1 9 1;");
        due("row(2, -1)", x.row(2, -1), 2);
        due("row(2, 0)", x.row(2, 0), 0);
        due("row(2, 2)", x.row(2, 2), NONE);
        due("row(0, -1)", x.row(0, -1), 2);
        due("row(0, 0)", x.row(0, 0), NONE);
        due("row(5, 4)", x.row(5, 4), 0);
        due("row(4, 4)", x.row(4, 4), NONE);
        due("row(6, -1)", x.row(6, -1), BAD);
        due("row(-1, -1)", x.row(-1, -1), BAD);
        due("row(1, -2)", x.row(1, -2), BAD);
        due("row(1, 5)", x.row(1, 5), BAD);
        x.tilts(1);
        due("row in place of the tilt", x.row(1, 0), 0);
        due("row's tilts, now told", x.row(1, -1), 2);
    }

    private static void promise16() {
        SpinTops x = told("t0 1 1;t4 60 1;t6 2 2;");
        due("odds upper", x.odds(0, 5, 1, 0), 1);
        due("odds lower", x.odds(0, 5, 1, 1), 2);
        due("odds upper", x.odds(0, 3, 5, 0), 3);
        due("odds lower", x.odds(0, 3, 5, 1), 10);
        due("odds, too late", x.odds(0, 3, 6, 0), 0);
        due("odds of 0, lower", x.odds(0, 3, 6, 1), 1);
        due("odds of 1, upper", x.odds(1, 3, 6, 0), 1);
        due("odds of 1, lower", x.odds(1, 3, 6, 1), 1);
        due("odds by 0 of 10", x.odds(0, 0, 1, 0), 0);
        due("odds by 10 of 10", x.odds(0, 10, 1, 0), 1);
        due("odds, 60 at most", x.odds(1, 10, 60, 0), 0);
        due("odds(3,", x.odds(3, 0, 0, 0), BAD);
        due("odds(-1,", x.odds(-1, 0, 0, 0), BAD);
        due("odds by 11", x.odds(0, 11, 0, 0), BAD);
        due("odds by -1", x.odds(0, -1, 0, 0), BAD);
        due("odds n 61", x.odds(0, 0, 61, 0), BAD);
        due("odds n -1", x.odds(0, 0, -1, 0), BAD);
        due("odds what 2", x.odds(0, 0, 0, 2), BAD);
        due("odds what -1", x.odds(0, 0, 0, -1), BAD);
        x.beats();
        due("odds of one that lies", x.odds(0, 10, 0, 0), 0);
        due("odds of one that lies", x.odds(0, 10, 0, 1), 1);
        // 0 comes to 1 and stands if it alone is whipped (9 to 8): 7/10 times 3/10.
        x = told("t0 5 1;t1 9 1;");
        x.tilts(1);
        due("odds of two that meet", x.odds(0, 7, 1, 0), 21);
        due("odds of two that meet", x.odds(0, 7, 1, 1), 100);
    }

    private static void promise17And18() {
        SpinTops x = new SpinTops();
        due("forget nothing", x.forget(), 0);
        due("sees(1, 1, 0)", x.sees(1, 1, 0), 1);
        due("sees(60, 20, 60)", x.sees(60, 20, 60), 2);
        due("sees v 0", x.sees(0, 1, 0), BAD);
        due("sees v 61", x.sees(61, 1, 0), BAD);
        due("sees n 0", x.sees(1, 0, 0), BAD);
        due("sees n 21", x.sees(1, 21, 0), BAD);
        due("sees s -1", x.sees(1, 1, -1), BAD);
        due("sees s 61", x.sees(1, 1, 61), BAD);
        for (int i = 3; i <= 6; i++) {
            due("sees", x.sees(9, 1, 8), i);
        }
        due("sees, the seventh", x.sees(9, 1, 8), FULL);
        due("sees, bad ahead of full", x.sees(0, 1, 8), BAD);
        due("seen", x.count(3), 6);
        due("forget", x.forget(), 6);
        due("seen", x.count(3), 0);
        due("drags, all", x.drags(0), 9);
    }

    private static void promise19() {
        SpinTops x = new SpinTops();
        due("drags(0)", x.drags(0), 9);
        due("drags(1)", x.drags(1), 1);
        due("drags(2)", x.drags(2), 9);
        due("drags(3)", x.drags(3), BAD);
        due("drags(-1)", x.drags(-1), BAD);
        x.sees(20, 4, 0);
        due("drags: v is n times 5, too", x.drags(1), 5);
        due("how many", x.drags(0), 5);
        due("the greatest", x.drags(2), 9);
        x.sees(30, 4, 6);
        due("drags: one", x.drags(0), 1);
        due("the least", x.drags(1), 6);
        due("the greatest", x.drags(2), 6);
        x.sees(30, 4, 7);
        due("drags: none", x.drags(0), 0);
        due("the least of none", x.drags(1), NONE);
        due("the greatest of none", x.drags(2), NONE);
    }

    private static void promise20() {
        SpinTops x = new SpinTops();
        due("look(60)", x.look(60), 1);
        due("look(9)", x.look(9), 1);
        due("look(1)", x.look(1), 1);
        due("look(0)", x.look(0), BAD);
        due("look(61)", x.look(61), BAD);
        x.sees(6, 1, 0);
        // 6 .. 9 are left; behind 1 beat, 7 tells 6 from the others, 9 all of them.
        due("look(7)", x.look(7), 1);
        x.forget();
        x.sees(8, 1, 0);
        x.sees(60, 1, 52);
        due("look, one is left", x.look(60), NONE);
        x.sees(60, 1, 51);
        due("look, none is left", x.look(60), NONE);
    }

    private static void promise21And25() {
        SpinTops x = told("t0 1 1;t1 20 3;t3 30 4;");
        x.beats();
        x.beats();
        due("TOP", x.rate(0, 1), 14);
        due("trace", x.trace(), 1);
        due("PEG", x.rate(1, 1), 17);
        due("trace", x.trace(), 12);
        due("HUMMER", x.rate(2, 1), 12);
        due("trace", x.trace(), 113);
        due("WHIPPER", x.rate(3, 1), 34);
        due("trace", x.trace(), 1124);
        due("DISC", x.rate(4, 2), 22);
        due("trace", x.trace(), 11225);
        due("ACORN", x.rate(5, 1), 16);
        due("trace", x.trace(), 111226);
        due("HUMMER of one that lies", x.rate(2, 0), -2);
        due("WHIPPER of one that lies", x.rate(3, 0), 2);
        due("trace", x.trace(), 112338);
        due("rate(6, 0)", x.rate(6, 0), NO);
        due("rate(-1, 0)", x.rate(-1, 0), NO);
        due("rate(0, 3)", x.rate(0, 3), NO);
        due("rate(0, -1)", x.rate(0, -1), NO);
        due("trace, nothing was asked", x.trace(), 112338);
    }

    private static void promise22And23() {
        SpinTops x = told("l30;t0 9 2;t4 2 1;");
        due("back, none was kept", x.back(0), STATE);
        due("back(2)", x.back(2), BAD);
        due("back(-1)", x.back(-1), BAD);
        due("keep(2)", x.keep(2), BAD);
        due("keep(-1)", x.keep(-1), BAD);
        due("keep(0)", x.keep(0), 0);
        x.tilts(1);
        x.beats();
        x.beats();
        x.sees(9, 1, 8);
        x.type('n');
        due("keep(1)", x.keep(1), 2);
        due("keep leaves what may be undone", x.now(5), 3);
        due("back(0)", x.back(0), 0);
        top(x, 0, 0, 9);
        top(x, 1, 4, 2);
        due("tilt", x.now(1), 0);
        due("nothing may be undone", x.now(5), 0);
        due("undo", x.undo(), STATE);
        due("seen stays", x.count(3), 1);
        due("letters stay", x.count(4), 1);
        due("back(1)", x.back(1), 2);
        top(x, 0, 2, 5);
        top(x, 1, NONE, 0);
        due("tilt", x.now(1), 1);
        x.whips(0, 20);
        due("back(1) again", x.back(1), 2);
        top(x, 0, 2, 5);
        x.beats();
        due("back(2) refused", x.back(2), BAD);
        due("a refused back leaves what may be undone", x.now(5), 1);
        due("keep(0) over another", x.keep(0), 3);
        x.undo();
        due("back(0)", x.back(0), 3);
        top(x, 0, 3, 3);
    }

    private static void promise24() {
        SpinTops x = told("n6;l12;t0 20 3;");
        x.sees(9, 1, 8);
        x.sees(9, 1, 8);
        type(x, "abc");
        int[] want = {6, 1, 12, 2, 3};
        for (int what = 0; what <= 4; what++) {
            due("count(" + what + ")", x.count(what), want[what]);
        }
        due("count(5)", x.count(5), BAD);
        due("count(-1)", x.count(-1), BAD);
    }

    private static void nothingAheadChangesAnything() {
        SpinTops x = told("n4;l30;t0 20 1;t1 9 1;t3 12 2;");
        x.tilts(2);
        x.keep(0);
        x.top(0, 4);
        x.now(4);
        x.stand(60);
        x.whip(20, 60);
        x.row(5, -1);
        x.odds(0, 5, 60, 0);
        due("beat", x.now(0), 0);
        due("tilt", x.now(1), 2);
        due("standing", x.now(2), 7);
        due("spins", x.now(3), 41);
        due("may be undone", x.now(5), 1);
        top(x, 0, 0, 20);
        top(x, 1, 1, 9);
        top(x, 2, 3, 12);
    }
}
