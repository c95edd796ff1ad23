import java.util.ArrayList;
import java.util.List;

/**
 * The document's boundary cases of promises 5 to 25, a sentence at a time: the last that is
 * taken, the first that is refused, and that nothing changes by what is refused.
 */
public final class BoundaryTest {
    private static final int BAD = -1, STATE = -2, FULL = -3, NONE = -9, NO = -1000000;
    private static final int LOW = Integer.MIN_VALUE, HIGH = Integer.MAX_VALUE;
    private static final int FRESH = 0, USED = 1, FILLED = 2, FALLEN = 3, STATES = 4;
    private static String sentence = "";
    private static int sentences = 0, wrong = 0;

    /** A call on an object, of one number that is tried out. */
    private interface Call {
        long on(SpinTops x, int number);
    }

    public static void main(String[] args) {
        tray();
        beats();
        meetings();
        done();
        undone();
        ahead();
        best();
        odds();
        seen();
        kinds();
        images();
        counts();
        System.out.println(wrong == 0 ? sentences + " sentences hold" : wrong + " answers are not as due");
        if (wrong != 0) {
            System.exit(1);
        }
    }

    private static void tray() {
        topsThereAre();
        whatOfATop();
        fallen();
        placesThereAre();
        whatOfNow();
    }

    private static void beats() {
        mostBeats();
        whoFallsBySpin();
        level();
        slowOrLess();
        ring();
        byNumbers();
    }

    private static void meetings() {
        theOneWhoComesFirst();
        theOneWhoIsThereFirst();
        roundTheRing();
        bothFall();
        whereOneLies();
    }

    private static void done() {
        whips();
        sixtyAtMost();
        whipsOfOneThatLies();
        tilts();
        sets();
        setsElsewhere();
    }

    private static void undone() {
        tenAreKnown();
        eachIsUndone();
        refusedIsNotKnown();
    }

    private static void ahead() {
        fall();
        last();
        stand();
        nothingIsChanged();
    }

    private static void best() {
        whipRange();
        whipNone();
        whipMost();
        rowRange();
        rowNone();
        rowTilts();
    }

    private static void odds() {
        oddsRange();
        oddsEdges();
        oddsLeastTerms();
    }

    private static void seen() {
        seesRange();
        seesFull();
        forget();
        drags();
        dragsNone();
        look();
    }

    private static void kinds() {
        rateRange();
        rates();
        traceOfEach();
    }

    private static void images() {
        imagesThereAre();
        noneWasKept();
        whatAnImageKeeps();
        nothingIsUndoneBehindBack();
    }

    // ---- how it is looked at

    private static void says(String words) {
        sentence = words;
        sentences++;
    }

    private static void due(String call, long got, long want) {
        if (got != want) {
            wrong++;
            System.out.println("[" + sentence + "] " + call + " answered " + got + ", due is " + want);
        }
    }

    private static SpinTops told(String text) {
        SpinTops x = new SpinTops();
        for (int i = 0; i < text.length(); i++) {
            x.type(text.charAt(i));
        }
        if (x.tray() < 0) {
            due("tray() of \"" + text + "\"", 0, 1);
        }
        return x;
    }

    private static SpinTops tilted(int way, String text) {
        SpinTops x = told(text);
        x.tilts(way);
        return x;
    }

    /** A new one; one that was used; one where all is full; one where all lie. */
    private static SpinTops made(int state) {
        switch (state) {
            case USED: return used();
            case FILLED: return filled();
            case FALLEN: return allFallen();
            default: return new SpinTops();
        }
    }

    /** TOPS 0 and 2 stand, 1 lies; image 0 alone is kept. */
    private static SpinTops used() {
        SpinTops x = told("n6;l12;t0 20 3;t2 5 5;t4 30 2;");
        x.tilts(1);
        x.keep(0);
        x.beats();
        x.sees(20, 2, 14);
        x.sees(30, 1, 23);
        x.rate(3, 0);
        x.whips(2, 4);
        x.type('n');
        x.type('4');
        return x;
    }

    private static SpinTops filled() {
        SpinTops x = told("n6;t5 40 1;t4 50 2;t3 60 3;t2 1 1;t1 30 1;t0 20 1;");
        x.keep(0);
        for (int i = 0; i < 6; i++) {
            x.beats();
            x.tilts(2 - i % 2);
            x.sees(20 + i, 2, 14 + i);
        }
        x.keep(1);
        x.rate(4, 5);
        for (int i = 0; i < 120; i++) {
            x.type(' ');
        }
        return x;
    }

    private static SpinTops allFallen() {
        SpinTops x = told("n10;t0 1 1;t9 2 9;");
        x.keep(1);
        x.beats();
        return x;
    }

    /** All that can be asked of an object; what was told, done and kept is used up by it. */
    private static List<Long> print(SpinTops x) {
        List<Long> all = new ArrayList<>();
        for (int what = 0; what <= 4; what++) {
            all.add((long) x.count(what));
        }
        all.add(x.trace());
        for (int what = 0; what <= 2; what++) {
            all.add((long) x.drags(what));
        }
        printNow(x, all);
        for (int i = 0; i < 11; i++) {
            all.add((long) x.undo());
            printNow(x, all);
        }
        for (int image = 0; image <= 1; image++) {
            all.add((long) x.back(image));
            printNow(x, all);
        }
        all.add((long) x.tray());
        all.add((long) x.clear());
        all.add((long) x.forget());
        return all;
    }

    private static void printNow(SpinTops x, List<Long> all) {
        for (int what = 0; what <= 3; what++) {
            all.add((long) x.now(what));
        }
        for (int t = 0; t < 6; t++) {
            all.add((long) x.top(t, 0));
            all.add((long) x.top(t, 1));
        }
    }

    private static void refused(int state, String name, int number, Call call, int answer) {
        SpinTops x = made(state);
        due(name + " of " + number + " in state " + state, call.on(x, number), answer);
        boolean same = print(x).equals(print(made(state)));
        due(name + " of " + number + " in state " + state + " changes nothing", same ? 1 : 0, 1);
    }

    private static void refused(int state, String name, Call call, int answer) {
        refused(state, name, 0, call, answer);
    }

    /** Below and above what it may be, a number is refused in every state. */
    private static void within(String name, int least, int most, int answer, Call call) {
        for (int state = 0; state < STATES; state++) {
            for (int number : new int[] {least - 1, most + 1, LOW, HIGH, least - 256, most + 256}) {
                refused(state, name, number, call, answer);
            }
        }
    }

    /** Both ends of what a number may be are taken where all that it needs is there. */
    private static void taken(String name, int least, int most, int answer, Call call) {
        for (int number : new int[] {least, most}) {
            long got = call.on(used(), number);
            due(name + " of " + number + " is taken", got == answer ? 0 : 1, 1);
        }
    }

    private static void stands(SpinTops x, int t, int place, int spin) {
        due("place of " + t, x.top(t, 0), place);
        due("spin of " + t, x.top(t, 1), spin);
        due("whether " + t + " stands", x.top(t, 3), 1);
        due("who is at " + place, x.at(place), t);
        due("bit of " + t, x.now(2) >> t & 1, 1);
    }

    private static void lies(SpinTops x, int t) {
        due("place of " + t, x.top(t, 0), NONE);
        due("spin of " + t, x.top(t, 1), 0);
        due("whether " + t + " stands", x.top(t, 3), 0);
        due("fall of " + t, x.top(t, 4), 0);
        due("bit of " + t, x.now(2) >> t & 1, 0);
    }

    // ---- promises 5 to 7: the tray

    private static void topsThereAre() {
        says("5: Of a TOP (0 .. as many as are told less 1). BAD");
        for (int tops = 0; tops <= 6; tops++) {
            StringBuilder text = new StringBuilder();
            for (int t = 0; t < tops; t++) {
                text.append("t").append(t).append(" 9 1;");
            }
            SpinTops x = told(text.toString());
            for (int what = 0; what <= 4; what++) {
                for (int t = 0; t < tops; t++) {
                    int[] want = {t, 9, 1, 1, 9};
                    due("top(" + t + ", " + what + ")", x.top(t, what), want[what]);
                }
                for (int t : new int[] {tops, 6, -1, LOW, HIGH}) {
                    due("top(" + t + ", " + what + ") of " + tops, x.top(t, what), BAD);
                }
            }
        }
    }

    private static void whatOfATop() {
        says("5: 0 PLACE, 1 SPIN, 2 DRAG, 3 whether it STANDS, 4 FALL. BAD");
        within("top(0, what)", 0, 4, BAD, (x, what) -> x.top(0, what));
        within("top(1, what)", 0, 4, BAD, (x, what) -> x.top(1, what));
        taken("top(0, what)", 0, 4, BAD, (x, what) -> x.top(0, what));
    }

    private static void fallen() {
        says("5: 0 PLACE (NONE: it does not STAND); it STANDS nowhere any more, its SPIN is 0");
        SpinTops x = told("t2 4 4;t0 5 4;");
        stands(x, 0, 2, 4);
        due("fall", x.top(0, 4), 1);
        due("beats()", x.beats(), 1);
        lies(x, 0);
        due("drag of one that lies", x.top(0, 2), 4);
        due("where it stood", x.at(2), NONE);
        stands(x, 1, 0, 1);
        due("all spins", x.now(3), 1);
    }

    private static void placesThereAre() {
        says("6: Who STANDS at a PLACE (0 .. as many as are told less 1); NONE. BAD");
        for (int places = 4; places <= 10; places++) {
            SpinTops x = told("n" + places + ";t" + (places - 1) + " 9 1;t1 1 1;");
            due("at the last", x.at(places - 1), 0);
            due("at 0", x.at(0), NONE);
            due("at 1", x.at(1), 1);
            for (int place : new int[] {places, -1, -9, 10, LOW, HIGH}) {
                due("at(" + place + ") of " + places, x.at(place), BAD);
            }
            x.beats();
            due("where one fell", x.at(1), NONE);
            due("at what one that lies has for a place", x.at(NONE), BAD);
        }
        refused(USED, "at(6)", (x, i) -> x.at(6), BAD);
        refused(FRESH, "at(8)", (x, i) -> x.at(8), BAD);
    }

    private static void whatOfNow() {
        says("7: 0 the BEAT, 1 TILT, 2 who STANDS, 3 all SPINS together, 4 LAST (NONE), 5 how many may be UNDONE. BAD");
        within("now", 0, 5, BAD, (x, what) -> x.now(what));
        taken("now", 0, 5, BAD, (x, what) -> x.now(what));
        SpinTops x = told("n6;t0 60 1;t1 60 1;t2 60 1;t3 60 1;t4 60 1;t5 60 1;");
        due("all stand", x.now(2), 63);
        due("the most spins", x.now(3), 360);
        x = made(FALLEN);
        int[] want = {1, 0, 0, 0, NONE, 1};
        for (int what = 0; what <= 5; what++) {
            due("now(" + what + ") when all lie", x.now(what), want[what]);
        }
    }

    // ---- promise 8: a BEAT

    private static void mostBeats() {
        says("8: A BEAT (999 at most). STATE: it is 999");
        // No object comes so far by the 512 calls that are promised; the rule is kept all the same.
        SpinTops x = told("t0 60 1;");
        for (int i = 1; i <= 998; i++) {
            x.beats();
        }
        x.undo();
        due("beat", x.now(0), 997);
        due("the 998th", x.beats(), 0);
        due("the 999th", x.beats(), 0);
        due("beat", x.now(0), 999);
        x.tilts(1);
        due("may be undone", x.now(5), 10);
        due("one more", x.beats(), STATE);
        due("beat", x.now(0), 999);
        due("may be undone", x.now(5), 10);
        due("tilt is undone, not a beat", x.undo(), 9);
        due("tilt", x.now(1), 0);
        due("beat", x.now(0), 999);
        due("stand(60) all the same", x.stand(60), 0);
        x.undo();
        due("behind undo()", x.beats(), 0);
        due("beat", x.now(0), 999);
    }

    private static void whoFallsBySpin() {
        says("8: SPIN of each that STANDS is DRAG less; who has 0 or less FALLS");
        for (int spin = 1; spin <= 20; spin++) {
            for (int drag = 1; drag <= 9; drag++) {
                SpinTops x = told("t3 " + spin + " " + drag + ";");
                due("beats() of " + spin + ", " + drag, x.beats(), spin <= drag ? 1 : 0);
                if (spin <= drag) {
                    lies(x, 0);
                } else {
                    stands(x, 0, 3, spin - drag);
                }
            }
        }
        SpinTops x = made(FALLEN);
        due("beats() when all lie", x.beats(), 0);
        due("beat", x.now(0), 2);
        lies(x, 0);
        due("beats() without tops", new SpinTops().beats(), 0);
        due("all six fall", told("t0 1 1;t1 1 2;t2 1 3;t3 1 9;t4 1 1;t5 1 1;").beats(), 6);
    }

    private static void level() {
        says("8: Then, if TILT is not 0 .. (0 level, 1 onwards, 2 back)");
        int[] there = {3, 4, 2};
        for (int way = 0; way <= 2; way++) {
            SpinTops x = tilted(way, "l30;t3 9 1;");
            x.beats();
            stands(x, 0, there[way], 8);
        }
    }

    private static void slowOrLess() {
        says("8: with SPIN of SLOW or less goes a PLACE on (SLOW 0 .. 30; 10 at first)");
        for (int slow = 0; slow <= 30; slow++) {
            for (int spin = 1; spin <= 32; spin++) {
                SpinTops x = tilted(1, "l" + slow + ";t3 " + (spin + 1) + " 1;");
                x.beats();
                stands(x, 0, spin <= slow ? 4 : 3, spin);
            }
        }
        SpinTops x = tilted(1, "t3 11 1;t0 12 1;");
        x.beats();
        stands(x, 0, 4, 10);
        stands(x, 1, 0, 11);
        x = tilted(2, "l0;t3 2 1;");
        x.beats();
        stands(x, 0, 3, 1);
    }

    private static void ring() {
        says("8: onwards: 1 more; back: 1 less; round the ring (behind the last comes 0)");
        for (int places = 4; places <= 10; places++) {
            for (int place = 0; place < places; place++) {
                String text = "n" + places + ";l30;t" + place + " 30 1;";
                SpinTops x = tilted(1, text);
                x.beats();
                stands(x, 0, place == places - 1 ? 0 : place + 1, 29);
                x = tilted(2, text);
                x.beats();
                stands(x, 0, place == 0 ? places - 1 : place - 1, 29);
            }
            SpinTops x = tilted(1, "n" + places + ";l30;t0 30 1;");
            for (int i = 0; i < places; i++) {
                x.beats();
            }
            stands(x, 0, 0, 30 - places);
        }
    }

    private static void byNumbers() {
        says("8: TOP by TOP, by numbers");
        SpinTops x = tilted(1, "t3 9 1;t2 8 1;");
        due("the lower one has gone on", x.beats(), 0);
        stands(x, 0, 4, 8);
        stands(x, 1, 3, 7);
        x = tilted(1, "t2 8 1;t3 9 1;");
        due("the lower one comes to the other", x.beats(), 1);
        lies(x, 0);
        stands(x, 1, 4, 3);
    }

    // ---- promise 8: they MEET

    private static void theOneWhoComesFirst() {
        says("8: who has less SPIN FALLS (of like ones he who comes), the other one has 5 less SPIN, and FALLS, too, if that is 0 or less");
        for (int comer = 1; comer <= 30; comer++) {
            for (int other = 1; other <= 59; other++) {
                SpinTops x = tilted(1, "l30;t2 " + (comer + 1) + " 1;t3 " + (other + 1) + " 1;");
                boolean comerWins = comer > other;
                int left = Math.max(comer, other) - 5;
                due("beats() of " + comer + ", " + other, x.beats(), left > 0 ? 1 : 2);
                due("where one came from", x.at(2), NONE);
                lies(x, comerWins ? 1 : 0);
                if (left <= 0) {
                    lies(x, comerWins ? 0 : 1);
                    due("where they met", x.at(3), NONE);
                } else if (comerWins) {
                    stands(x, 0, 3, left);
                } else {
                    // It was the other one's turn next: it goes on if it is slow now.
                    stands(x, 1, left <= 30 ? 4 : 3, left);
                }
            }
        }
    }

    private static void theOneWhoIsThereFirst() {
        says("8: the same, when the turn of the one who is there is over");
        for (int comer = 1; comer <= 10; comer++) {
            for (int other = 11; other <= 20; other++) {
                SpinTops x = tilted(2, "t3 " + (other + 1) + " 1;t4 " + (comer + 1) + " 1;");
                due("beats() of " + comer + ", " + other, x.beats(), 1);
                lies(x, 1);
                stands(x, 0, 3, other - 5);
            }
        }
    }

    private static void roundTheRing() {
        says("8: If another one STANDS there (round the ring), they MEET");
        for (int places = 4; places <= 10; places++) {
            int end = places - 1;
            SpinTops x = tilted(1, "n" + places + ";t" + end + " 11 1;t0 40 1;");
            due("onwards", x.beats(), 1);
            lies(x, 0);
            stands(x, 1, 0, 34);
            x = tilted(2, "n" + places + ";t0 11 1;t" + end + " 10 1;");
            due("back", x.beats(), 1);
            stands(x, 0, end, 5);
            lies(x, 1);
        }
    }

    private static void bothFall() {
        says("8: and FALLS, too, if that is 0 or less: the PLACE is empty then");
        SpinTops x = tilted(1, "t2 6 1;t3 5 1;t1 4 1;");
        due("two fall, the third goes where the first was", x.beats(), 2);
        stands(x, 2, 2, 3);
        due("where they met", x.at(3), NONE);
        x = tilted(1, "t1 6 1;t2 6 1;t0 4 1;");
        due("like ones of 5", x.beats(), 2);
        stands(x, 2, 1, 3);
        x = tilted(1, "t2 7 1;t3 6 1;");
        due("who has 6 stands yet", x.beats(), 1);
        stands(x, 0, 3, 1);
    }

    private static void whereOneLies() {
        says("8: One that FALLS lies aside: none MEETS it");
        SpinTops x = tilted(1, "t3 1 1;t2 9 1;");
        due("it falls first", x.beats(), 1);
        stands(x, 1, 3, 8);
        due("and goes nowhere", x.beats(), 0);
        lies(x, 0);
        stands(x, 1, 4, 7);
    }

    // ---- promises 9 to 12: what is done

    private static void whips() {
        says("9: WHIPPED by k (1 .. 20): SPIN then. BAD");
        within("whips(0, k)", 1, 20, BAD, (x, k) -> x.whips(0, k));
        within("whips(1, k), BAD ahead of STATE", 1, 20, BAD, (x, k) -> x.whips(1, k));
        refused(FRESH, "whips(0, 1) without tops", (x, i) -> x.whips(0, 1), BAD);
        for (int t : new int[] {3, 6, -1, LOW, HIGH}) {
            refused(USED, "whips(t, 1)", t, (x, number) -> x.whips(number, 1), BAD);
        }
        refused(FILLED, "whips(6, 1)", (x, i) -> x.whips(6, 1), BAD);
        for (int k = 1; k <= 20; k++) {
            SpinTops x = told("t0 9 1;t1 9 1;");
            due("whips(0, " + k + ")", x.whips(0, k), 9 + k);
            stands(x, 0, 0, 9 + k);
            stands(x, 1, 1, 9);
            due("may be undone", x.now(5), 1);
        }
    }

    private static void sixtyAtMost() {
        says("9: k more SPIN (60 at most)");
        int[][] rows = {{39, 20, 59}, {40, 20, 60}, {41, 20, 60}, {59, 1, 60}, {59, 2, 60}, {60, 1, 60}, {60, 20, 60}};
        for (int[] row : rows) {
            SpinTops x = told("t0 " + row[0] + " 1;");
            due("whips(0, " + row[1] + ") of " + row[0], x.whips(0, row[1]), row[2]);
            stands(x, 0, 0, row[2]);
            due("may be undone", x.now(5), 1);
            due("undo()", x.undo(), 0);
            stands(x, 0, 0, row[0]);
        }
    }

    private static void whipsOfOneThatLies() {
        says("9: STATE: it does not STAND");
        refused(USED, "whips(1, 1)", (x, i) -> x.whips(1, 1), STATE);
        refused(USED, "whips(1, 20)", (x, i) -> x.whips(1, 20), STATE);
        refused(FILLED, "whips(3, 1)", (x, i) -> x.whips(3, 1), STATE);
        refused(FALLEN, "whips(0, 20)", (x, i) -> x.whips(0, 20), STATE);
        SpinTops x = told("t0 2 1;");
        x.beats();
        due("who has 1", x.whips(0, 1), 2);
    }

    private static void tilts() {
        says("10: TILTED: TILT (0, 1, 2) is another one: what it was. BAD; STATE: it is so");
        within("tilts", 0, 2, BAD, (x, way) -> x.tilts(way));
        refused(FRESH, "tilts(0)", (x, i) -> x.tilts(0), STATE);
        refused(USED, "tilts(1)", (x, i) -> x.tilts(1), STATE);
        refused(FILLED, "tilts(1)", (x, i) -> x.tilts(1), STATE);
        for (int from = 0; from <= 2; from++) {
            for (int to = 0; to <= 2; to++) {
                SpinTops x = told("t0 9 1;");
                x.tilts(from);
                due("tilts(" + to + ") of " + from, x.tilts(to), from == to ? STATE : from);
                due("tilt", x.now(1), to);
                due("may be undone", x.now(5), (from == 0 ? 0 : 1) + (from == to ? 0 : 1));
            }
        }
    }

    private static void sets() {
        says("11: SET: one that STANDS: the PLACE till then. BAD; STATE: it does not STAND");
        for (int state = FRESH; state < STATES; state++) {
            int places = made(state).count(0);
            int tops = made(state).count(1);
            for (int place : new int[] {places, -1, NONE, LOW, HIGH}) {
                refused(state, "sets(0, place)", place, (x, number) -> x.sets(0, number), BAD);
                refused(state, "sets(1, place)", place, (x, number) -> x.sets(1, number), BAD);
            }
            for (int t : new int[] {tops, 6, -1, LOW, HIGH}) {
                refused(state, "sets(t, 1)", t, (x, number) -> x.sets(number, 1), BAD);
            }
        }
        refused(USED, "sets(1, 5) of one that lies", (x, i) -> x.sets(1, 5), STATE);
        refused(USED, "sets(1, 2) of one that lies, where it was", (x, i) -> x.sets(1, 2), STATE);
        refused(FALLEN, "sets(0, 0)", (x, i) -> x.sets(0, 0), STATE);
    }

    private static void setsElsewhere() {
        says("11: at another, empty PLACE; STATE: that one is not empty");
        refused(USED, "sets(0, 4), where 2 stands", (x, i) -> x.sets(0, 4), STATE);
        refused(USED, "sets(2, 4), where it stands", (x, i) -> x.sets(2, 4), STATE);
        for (int places = 4; places <= 10; places++) {
            SpinTops x = told("n" + places + ";t1 9 1;t2 1 1;");
            due("to the last", x.sets(0, places - 1), 1);
            stands(x, 0, places - 1, 9);
            due("where it stood", x.at(1), NONE);
            due("to 0", x.sets(0, 0), places - 1);
            stands(x, 0, 0, 9);
            due("where another stands", x.sets(0, 2), STATE);
            due("where it stands", x.sets(0, 0), STATE);
            x.beats();
            due("where one lies", x.sets(0, 2), 0);
            stands(x, 0, 2, 8);
            due("may be undone", x.now(5), 4);
        }
    }

    private static void tenAreKnown() {
        says("12: UNDONE: how many more may be (10 are known, older ones are lost). STATE: none");
        for (int done = 0; done <= 25; done++) {
            SpinTops x = told("t0 9 1;");
            for (int i = 0; i < done; i++) {
                x.whips(0, 1);
            }
            int known = Math.min(10, done);
            due("may be undone of " + done, x.now(5), known);
            for (int left = known - 1; left >= 0; left--) {
                due("undo()", x.undo(), left);
                due("now(5)", x.now(5), left);
            }
            due("spin of the oldest that is known", x.top(0, 1), 9 + done - known);
            due("none", x.undo(), STATE);
            due("spin behind a refused undo()", x.top(0, 1), 9 + done - known);
            due("now(5)", x.now(5), 0);
            due("done again", x.whips(0, 1), 10 + done - known);
            due("undone again", x.undo(), 0);
        }
        refused(FRESH, "undo()", (x, i) -> x.undo(), STATE);
    }

    private static void eachIsUndone() {
        says("12: UNDONE: the latest beats(), whips(), tilts(), sets()");
        SpinTops x = tilted(1, "n4;l30;t3 9 9;t0 8 1;t1 20 2;");
        due("beats()", x.beats(), 2);
        due("whips(2, 20)", x.whips(2, 20), 33);
        due("sets(2, 3)", x.sets(2, 3), 2);
        due("tilts(2)", x.tilts(2), 1);
        due("undo tilts()", x.undo(), 4);
        due("tilt", x.now(1), 1);
        stands(x, 2, 3, 33);
        due("undo sets()", x.undo(), 3);
        stands(x, 2, 2, 33);
        due("undo whips()", x.undo(), 2);
        stands(x, 2, 2, 13);
        lies(x, 0);
        lies(x, 1);
        due("undo beats()", x.undo(), 1);
        due("beat", x.now(0), 0);
        stands(x, 0, 3, 9);
        stands(x, 1, 0, 8);
        stands(x, 2, 1, 20);
        due("undo tilts()", x.undo(), 0);
        due("tilt", x.now(1), 0);
    }

    private static void refusedIsNotKnown() {
        says("12: that was not refused");
        SpinTops x = told("t0 1 1;t1 9 1;");
        x.beats();
        x.whips(0, 1);
        x.whips(1, 0);
        x.tilts(0);
        x.tilts(3);
        x.sets(0, 2);
        x.sets(1, 1);
        x.sets(1, 8);
        due("may be undone", x.now(5), 1);
        due("undo()", x.undo(), 0);
        stands(x, 0, 0, 1);
    }

    // ---- promises 5, 7, 13: what comes

    private static void fall() {
        says("5: FALL of one: behind how many BEATS (0 .. 60) it STANDS first no more");
        for (int spin : new int[] {1, 2, 9, 10, 18, 19, 59, 60}) {
            for (int drag = 1; drag <= 9; drag++) {
                SpinTops x = told("t0 " + spin + " " + drag + ";");
                int want = (spin + drag - 1) / drag;
                due("fall of " + spin + ", " + drag, x.top(0, 4), want);
                due("stands a beat ahead of it", x.stand(want - 1), 1);
                due("stands no more", x.stand(want), 0);
            }
        }
        SpinTops x = told("t0 60 1;");
        due("the longest", x.top(0, 4), 60);
        x.whips(0, 20);
        due("the longest", x.top(0, 4), 60);
        due("one that lies", made(FALLEN).top(1, 4), 0);
        x = tilted(1, "t2 9 1;t3 30 1;");
        due("by a meeting", x.top(0, 4), 1);
    }

    private static void last() {
        says("7: LAST: who STANDS longest, of several the lowest; NONE (none STANDS)");
        due("without tops", new SpinTops().now(4), NONE);
        due("all lie", made(FALLEN).now(4), NONE);
        due("like ones", told("t3 9 1;t0 9 1;").now(4), 0);
        due("one beat longer", told("t3 9 1;t0 10 1;").now(4), 1);
        due("like ones by other spins", told("t3 1 1;t0 10 5;t1 2 1;").now(4), 1);
        due("all fall at once", told("t3 1 1;t0 1 5;").now(4), 0);
        due("the longest of all", told("t3 59 1;t0 60 1;").now(4), 1);
        due("both fall in a meeting", tilted(1, "t3 5 1;t2 6 1;").now(4), 1);
        SpinTops x = told("t0 1 1;t1 2 1;");
        x.beats();
        due("one lies", x.now(4), 1);
        x.beats();
        due("all lie", x.now(4), NONE);
    }

    private static void stand() {
        says("13: STAND behind n (0 .. 60) BEATS: TOPS (bits). BAD");
        within("stand", 0, 60, BAD, (x, n) -> x.stand(n));
        taken("stand", 0, 60, BAD, (x, n) -> x.stand(n));
        SpinTops x = told("n10;t0 1 1;t1 60 1;t2 2 1;t3 9 9;t9 10 9;t5 59 1;");
        due("stand(0)", x.stand(0), 63);
        due("stand(1)", x.stand(1), 1 << 1 | 1 << 2 | 1 << 4 | 1 << 5);
        due("stand(2)", x.stand(2), 1 << 1 | 1 << 5);
        due("stand(58)", x.stand(58), 1 << 1 | 1 << 5);
        due("stand(59)", x.stand(59), 1 << 1);
        due("stand(60)", x.stand(60), 0);
        due("without tops", new SpinTops().stand(60), 0);
        due("all lie", made(FALLEN).stand(0), 0);
    }

    private static void nothingIsChanged() {
        says("5 to 20: As things are NOW; nothing is changed");
        for (int state = FRESH; state < STATES; state++) {
            SpinTops x = made(state);
            x.top(0, 4);
            x.now(4);
            x.stand(60);
            x.whip(20, 60);
            x.row(5, -1);
            x.row(5, 4);
            x.odds(0, 5, 60, 0);
            x.drags(0);
            x.look(60);
            due("in state " + state, print(x).equals(print(made(state))) ? 1 : 0, 1);
        }
    }

    // ---- promises 14, 15: what is best

    private static void whipRange() {
        says("14: WHIP by k (1 .. 20), n (0 .. 60). BAD");
        within("whip(k, 0)", 1, 20, BAD, (x, k) -> x.whip(k, 0));
        within("whip(1, n)", 0, 60, BAD, (x, n) -> x.whip(1, n));
        taken("whip(k, 60)", 1, 20, BAD, (x, k) -> x.whip(k, 60));
        taken("whip(20, n)", 0, 60, BAD, (x, n) -> x.whip(20, n));
    }

    private static void whipNone() {
        says("14: NONE (none STANDS)");
        due("without tops", new SpinTops().whip(1, 0), NONE);
        due("all lie", made(FALLEN).whip(20, 60), NONE);
        due("one stands", told("t0 1 1;").whip(1, 60), 0);
        SpinTops x = told("t0 1 1;t1 2 1;");
        x.beats();
        due("who lies is not whipped", x.whip(20, 0), 1);
    }

    private static void whipMost() {
        says("14: the one that lets most STAND behind n BEATS, of several the lowest");
        SpinTops x = told("t0 9 1;t2 2 1;t4 2 1;t6 3 1;");
        due("n 0: all alike", x.whip(20, 0), 0);
        due("n 1: all alike", x.whip(1, 1), 0);
        due("one that would fall just then", x.whip(1, 2), 1);
        due("one less than it needs", x.whip(1, 3), 3);
        due("as much as it needs", x.whip(2, 3), 1);
        due("nobody stands", x.whip(20, 60), 0);
        due("60 at most: none stands behind 60", told("t0 10 1;t4 60 1;").whip(20, 60), 0);
        due("59 of 60", told("t0 10 1;t4 59 1;").whip(20, 59), 1);
        x = tilted(1, "t3 60 1;t2 11 1;");
        due("who is whipped is slow no more", x.whip(1, 1), 1);
        x = tilted(1, "t3 60 1;t2 10 1;");
        due("one less: slow yet", x.whip(1, 1), 0);
        due("one more: slow no more", x.whip(2, 1), 1);
    }

    private static void rowRange() {
        says("15: ROW for n (0 .. 5): k = -1, the k-th TILT. BAD (k below -1, above 4)");
        within("row(n, -1)", 0, 5, BAD, (x, n) -> x.row(n, -1));
        within("row(n, 0)", 0, 5, BAD, (x, n) -> x.row(n, 0));
        within("row(5, k)", -1, 4, BAD, (x, k) -> x.row(5, k));
        within("row(0, k)", -1, 4, BAD, (x, k) -> x.row(0, k));
        taken("row(n, -1)", 0, 5, BAD, (x, n) -> x.row(n, -1));
        taken("row(5, k)", -1, 4, BAD, (x, k) -> x.row(5, k));
    }

    private static void rowNone() {
        says("15: the k-th TILT; NONE (not so many)");
        for (int state = FRESH; state < STATES; state++) {
            SpinTops x = made(state);
            for (int n = 0; n <= 5; n++) {
                for (int k = 0; k <= 4; k++) {
                    due("row(" + n + ", " + k + ") in state " + state, x.row(n, k), k < n ? 0 : NONE);
                }
            }
        }
    }

    private static void rowTilts() {
        says("15: each told ahead of a BEAT, in place of what it is: how many STAND");
        SpinTops x = tilted(1, "l30;t2 9 1;t3 3 1;t4 60 1;");
        due("n 0: as it is", x.row(0, -1), 3);
        due("a beat as it is tilted", Integer.bitCount(x.stand(1)), 2);
        due("n 1", x.row(1, -1), 3);
        due("n 2", x.row(2, -1), 3);
        due("n 3", x.row(3, -1), 2);
        due("n 5", x.row(5, -1), 2);
        due("n 5 of none", new SpinTops().row(5, -1), 0);
        due("n 0 when all lie", made(FALLEN).row(0, -1), 0);
    }

    // ---- promise 16

    private static void oddsRange() {
        says("16: ODDS by x (0 .. 10), n (0 .. 60) for a TOP: upper (what = 0), lower number (1). BAD");
        within("odds(0, x, 0, 0)", 0, 10, BAD, (x, by) -> x.odds(0, by, 0, 0));
        within("odds(0, 0, n, 1)", 0, 60, BAD, (x, n) -> x.odds(0, 0, n, 1));
        within("odds(0, 5, 5, what)", 0, 1, BAD, (x, what) -> x.odds(0, 5, 5, what));
        for (int state = FRESH; state < STATES; state++) {
            int tops = made(state).count(1);
            for (int t : new int[] {tops, 6, -1, LOW, HIGH}) {
                refused(state, "odds(t, 5, 5, 0)", t, (x, number) -> x.odds(number, 5, 5, 0), BAD);
            }
        }
        taken("odds(2, x, 60, 0)", 0, 10, BAD, (x, by) -> x.odds(2, by, 60, 0));
        taken("odds(2, 5, n, 0)", 0, 60, BAD, (x, n) -> x.odds(2, 5, n, 0));
        taken("odds(2, 5, 5, what)", 0, 1, BAD, (x, what) -> x.odds(2, 5, 5, what));
    }

    private static void fraction(SpinTops x, int t, int by, int n, int upper, int lower) {
        due("odds(" + t + ", " + by + ", " + n + ", 0)", x.odds(t, by, n, 0), upper);
        due("odds(" + t + ", " + by + ", " + n + ", 1)", x.odds(t, by, n, 1), lower);
    }

    private static void oddsEdges() {
        says("16: each that STANDS is WHIPPED by 5 NOW by x of 10: that this one STANDS behind n BEATS");
        SpinTops x = told("t0 1 1;t4 60 1;t6 5 5;t7 55 1;");
        fraction(x, 0, 0, 0, 1, 1);
        fraction(x, 0, 10, 0, 1, 1);
        fraction(x, 0, 0, 1, 0, 1);
        fraction(x, 0, 10, 1, 1, 1);
        fraction(x, 0, 10, 5, 1, 1);
        fraction(x, 0, 10, 6, 0, 1);
        fraction(x, 0, 1, 5, 1, 10);
        fraction(x, 0, 9, 5, 9, 10);
        fraction(x, 1, 10, 59, 1, 1);
        fraction(x, 1, 10, 60, 0, 1);
        fraction(x, 1, 0, 59, 1, 1);
        fraction(x, 2, 7, 1, 7, 10);
        fraction(x, 2, 10, 2, 0, 1);
        fraction(x, 3, 3, 54, 1, 1);
        fraction(x, 3, 3, 55, 3, 10);
        fraction(x, 3, 3, 59, 3, 10);
        fraction(x, 3, 10, 60, 0, 1);
        x = made(FALLEN);
        fraction(x, 0, 10, 0, 0, 1);
        fraction(x, 1, 5, 60, 0, 1);
    }

    private static void oddsLeastTerms() {
        says("16: for itself; a fraction in least terms");
        SpinTops six = told("t0 1 1;t1 1 1;t2 1 1;t3 1 1;t4 1 1;t5 1 1;");
        int[][] least = {{0, 1}, {1, 10}, {1, 5}, {3, 10}, {2, 5}, {1, 2}, {3, 5}, {7, 10}, {4, 5}, {9, 10}, {1, 1}};
        for (int by = 0; by <= 10; by++) {
            fraction(six, 5, by, 1, least[by][0], least[by][1]);
        }
        // 0 comes to 1 and stands if it alone is whipped: x of 10 times (10 less x) of 10.
        SpinTops two = tilted(1, "t0 5 1;t1 9 1;");
        int[][] pairs = {{0, 1}, {9, 100}, {4, 25}, {21, 100}, {6, 25}, {1, 4}, {6, 25}, {21, 100}, {4, 25}, {9, 100}, {0, 1}};
        for (int by = 0; by <= 10; by++) {
            fraction(two, 0, by, 1, pairs[by][0], pairs[by][1]);
        }
    }

    // ---- promises 17 to 20: how much drag

    private static void seesRange() {
        says("17: of SPIN v (1 .. 60), spun s (0 .. 60) behind n (1 .. 20) BEATS. BAD");
        within("sees(v, 1, 0)", 1, 60, BAD, (x, v) -> x.sees(v, 1, 0));
        within("sees(1, n, 0)", 1, 20, BAD, (x, n) -> x.sees(1, n, 0));
        within("sees(1, 1, s)", 0, 60, BAD, (x, s) -> x.sees(1, 1, s));
        taken("sees(v, 20, 60)", 1, 60, BAD, (x, v) -> x.sees(v, 20, 60));
        taken("sees(60, n, 0)", 1, 20, BAD, (x, n) -> x.sees(60, n, 0));
        taken("sees(1, 20, s)", 0, 60, BAD, (x, s) -> x.sees(1, 20, s));
    }

    private static void seesFull() {
        says("17: SEEN (6 at most): how much there is. FULL");
        SpinTops x = new SpinTops();
        for (int i = 1; i <= 6; i++) {
            due("sees", x.sees(60, 20, 0), i);
            due("seen", x.count(3), i);
        }
        due("the seventh", x.sees(60, 1, 57), FULL);
        due("seen", x.count(3), 6);
        due("drags, without the seventh", x.drags(0), 7);
        refused(FILLED, "the seventh", (y, i) -> y.sees(60, 20, 60), FULL);
        refused(FILLED, "the seventh", (y, i) -> y.sees(1, 1, 0), FULL);
        refused(FILLED, "BAD ahead of FULL", (y, i) -> y.sees(61, 1, 0), BAD);
        due("forget()", x.forget(), 6);
        due("sees behind forget()", x.sees(60, 1, 57), 1);
    }

    private static void forget() {
        says("18: Nothing is SEEN: how much was");
        for (int seen = 0; seen <= 6; seen++) {
            SpinTops x = used();
            x.forget();
            for (int i = 0; i < seen; i++) {
                x.sees(9, 1, 0);
            }
            due("forget()", x.forget(), seen);
            due("seen", x.count(3), 0);
            due("drags(0)", x.drags(0), 9);
            due("forget() again", x.forget(), 0);
            due("may be undone, as till then", x.now(5), 3);
        }
    }

    private static void dragsOf(int v, int n, int s, int many, int least, int greatest) {
        SpinTops x = new SpinTops();
        x.sees(v, n, s);
        String row = " of " + v + ", " + n + ", " + s;
        due("drags(0)" + row, x.drags(0), many);
        due("drags(1)" + row, x.drags(1), least);
        due("drags(2)" + row, x.drags(2), greatest);
    }

    private static void drags() {
        says("19: DRAGS (1 .. 9) by which all that was SEEN is so: how many (what = 0), the least (1), the greatest (2). BAD");
        within("drags", 0, 2, BAD, (x, what) -> x.drags(what));
        taken("drags", 0, 2, BAD, (x, what) -> x.drags(what));
        SpinTops x = new SpinTops();
        due("nothing seen, drags(0)", x.drags(0), 9);
        due("nothing seen, drags(1)", x.drags(1), 1);
        due("nothing seen, drags(2)", x.drags(2), 9);
        dragsOf(60, 1, 59, 1, 1, 1);
        dragsOf(60, 1, 51, 1, 9, 9);
        dragsOf(9, 1, 0, 1, 9, 9);
        dragsOf(1, 1, 0, 9, 1, 9);
        dragsOf(2, 1, 0, 8, 2, 9);
        dragsOf(9, 9, 0, 9, 1, 9);
        dragsOf(9, 8, 0, 8, 2, 9);
        dragsOf(9, 8, 1, 1, 1, 1);
        dragsOf(60, 20, 0, 7, 3, 9);
        dragsOf(60, 20, 20, 1, 2, 2);
        dragsOf(60, 20, 40, 1, 1, 1);
    }

    private static void dragsNone() {
        says("19: NONE");
        dragsOf(60, 1, 60, 0, NONE, NONE);
        dragsOf(60, 1, 50, 0, NONE, NONE);
        dragsOf(10, 1, 0, 0, NONE, NONE);
        dragsOf(1, 1, 60, 0, NONE, NONE);
        dragsOf(1, 1, 1, 0, NONE, NONE);
        dragsOf(60, 20, 1, 0, NONE, NONE);
        SpinTops x = new SpinTops();
        x.sees(60, 1, 59);
        x.sees(60, 1, 58);
        due("by two that are not so together, drags(0)", x.drags(0), 0);
        due("drags(1)", x.drags(1), NONE);
        due("drags(2)", x.drags(2), NONE);
    }

    private static void look() {
        says("20: LOOK for SPIN v (1 .. 60): the n (1 .. 20), of several the least; NONE (one can be at most). BAD");
        within("look", 1, 60, BAD, (x, v) -> x.look(v));
        SpinTops x = new SpinTops();
        for (int v = 1; v <= 60; v++) {
            due("look(" + v + "), all can be", x.look(v), 1);
        }
        x.sees(8, 1, 0);
        due("two can be", x.drags(0), 2);
        due("look(60)", x.look(60), 1);
        due("look(1)", x.look(1), 1);
        x.sees(60, 1, 52);
        due("one can be", x.drags(0), 1);
        due("look(60)", x.look(60), NONE);
        due("look(1)", x.look(1), NONE);
        due("BAD ahead of NONE", x.look(61), BAD);
        x.sees(60, 1, 51);
        due("none can be", x.drags(0), 0);
        due("look(60)", x.look(60), NONE);
        due("BAD ahead of NONE", x.look(0), BAD);
        x.forget();
        due("all can be again", x.look(60), 1);
    }

    // ---- promises 21, 25: kinds

    private static void rateRange() {
        says("21: RATE of one as if of a KIND (0 .. 5). NO: BAD");
        within("rate(kind, 0)", 0, 5, NO, (x, kind) -> x.rate(kind, 0));
        taken("rate(kind, 0)", 0, 5, NO, (x, kind) -> x.rate(kind, 0));
        for (int state = FRESH; state < STATES; state++) {
            int tops = made(state).count(1);
            for (int kind = 0; kind <= 5; kind++) {
                int asked = kind;
                for (int t : new int[] {tops, 6, -1, LOW, HIGH}) {
                    refused(state, "rate(" + kind + ", t)", t, (x, number) -> x.rate(asked, number), NO);
                }
            }
        }
    }

    private static void rates() {
        says("21: TOP its SPIN; PEG up, and DRAG; HUMMER up less how many STAND; WHIPPER twice up; DISC up, and its number; ACORN up, and the BEAT");
        SpinTops x = told("t0 1 9;t1 60 9;t2 2 1;t3 60 1;t4 60 1;t5 60 9;");
        int[] first = {60, 69, 54, 138, 59, 60};
        for (int kind = 0; kind <= 5; kind++) {
            due("rate(" + kind + ", 5)", x.rate(kind, 5), first[kind]);
        }
        x.beats();
        int[] lying = {0, 9, -5, 18, -5, 1};
        int[] slowest = {1, 2, -4, 4, -2, 2};
        int[] greatest = {51, 60, 46, 120, 51, 52};
        for (int kind = 0; kind <= 5; kind++) {
            due("one that lies: rate(" + kind + ", 0)", x.rate(kind, 0), lying[kind]);
            due("rate(" + kind + ", 2)", x.rate(kind, 2), slowest[kind]);
            due("rate(" + kind + ", 5)", x.rate(kind, 5), greatest[kind]);
        }
    }

    private static void traceOfEach() {
        says("25: THE TRACE, 0 at first: as often as rate() asks that body: each once");
        long[] added = {1, 11, 101, 1011, 10101, 100001};
        for (int kind = 0; kind <= 5; kind++) {
            SpinTops x = told("t0 9 1;");
            due("at first", x.trace(), 0);
            for (int times = 1; times <= 12; times++) {
                x.rate(kind, 0);
                due("trace of " + kind, x.trace(), times * added[kind]);
            }
            x.rate(kind, 1);
            x.rate(6, 0);
            due("trace behind NO", x.trace(), 12 * added[kind]);
            x.beats();
            x.undo();
            x.keep(0);
            x.back(0);
            due("nothing else changes it", x.trace(), 12 * added[kind]);
        }
        SpinTops x = told("t0 60 1;");
        for (int i = 0; i < 450; i++) {
            x.rate(5, 0);
        }
        due("trace of many", x.trace(), 45000450L);
    }

    // ---- promises 22, 23: images

    private static void imagesThereAre() {
        says("22, 23: IMAGES 0, 1. BAD");
        within("keep", 0, 1, BAD, (x, image) -> x.keep(image));
        within("back", 0, 1, BAD, (x, image) -> x.back(image));
        taken("keep", 0, 1, BAD, (x, image) -> x.keep(image));
        SpinTops x = used();
        due("keep(0)", x.keep(0), 1);
        x.beats();
        due("keep(1)", x.keep(1), 2);
        x.beats();
        due("keep changes nothing else", x.now(5), 5);
        due("back(0)", x.back(0), 1);
        due("back(1)", x.back(1), 2);
        due("back(0) again", x.back(0), 1);
        due("keep(1) over another", x.keep(1), 1);
        x.beats();
        due("back(1)", x.back(1), 1);
        due("a new one's image", new SpinTops().keep(1), 0);
    }

    private static void noneWasKept() {
        says("23: STATE: none was kept (Read anew: IMAGES are gone)");
        refused(FRESH, "back(0)", (x, i) -> x.back(0), STATE);
        refused(FRESH, "back(1)", (x, i) -> x.back(1), STATE);
        refused(USED, "back(1)", (x, i) -> x.back(1), STATE);
        refused(FALLEN, "back(0)", (x, i) -> x.back(0), STATE);
        SpinTops x = told("t0 9 1;");
        x.keep(0);
        x.keep(1);
        x.undo();
        due("an image outlasts undo()", x.back(0), 0);
        x.tray();
        due("back(0) behind tray()", x.back(0), STATE);
        due("back(1) behind tray()", x.back(1), STATE);
    }

    private static void whatAnImageKeeps() {
        says("22: IMAGES keep NOW (the BEAT, TILT, PLACES, SPINS, who STANDS); nothing else");
        SpinTops x = tilted(2, "n4;l30;t0 9 1;t2 1 1;");
        x.keep(0);
        x.beats();
        lies(x, 1);
        x.keep(1);
        x.tilts(0);
        x.sets(0, 1);
        x.whips(0, 20);
        x.sees(9, 1, 8);
        x.rate(0, 0);
        x.type('t');
        due("back(0)", x.back(0), 0);
        due("tilt", x.now(1), 2);
        stands(x, 0, 0, 9);
        stands(x, 1, 2, 1);
        due("seen stays", x.count(3), 1);
        due("trace stays", x.trace(), 1);
        due("letters stay", x.count(4), 1);
        due("back(1)", x.back(1), 1);
        due("tilt", x.now(1), 2);
        stands(x, 0, 3, 8);
        lies(x, 1);
        x.forget();
        x.whips(0, 1);
        due("an image is not changed by what is done behind back()", x.back(1), 1);
        stands(x, 0, 3, 8);
        due("forgotten stays", x.count(3), 0);
    }

    private static void nothingIsUndoneBehindBack() {
        says("23: nothing can be UNDONE behind back()");
        for (int done = 0; done <= 12; done++) {
            SpinTops x = told("t0 30 1;");
            x.keep(0);
            for (int i = 0; i < done; i++) {
                x.beats();
            }
            due("back(0)", x.back(0), 0);
            due("may be undone", x.now(5), 0);
            due("undo()", x.undo(), STATE);
            stands(x, 0, 0, 30);
            x.whips(0, 3);
            due("what is done behind it may be", x.undo(), 0);
            stands(x, 0, 0, 30);
        }
    }

    // ---- promise 24

    private static void counts() {
        says("24: 0 PLACES, 1 TOPS, 2 SLOW, 3 SEEN, 4 letters of THE TEXT. BAD");
        within("count", 0, 4, BAD, (x, what) -> x.count(what));
        taken("count", 0, 4, BAD, (x, what) -> x.count(what));
        int[][] want = {{8, 0, 10, 0, 0}, {6, 3, 12, 2, 2}, {6, 6, 10, 6, 120}, {10, 2, 10, 0, 0}};
        for (int state = FRESH; state < STATES; state++) {
            for (int what = 0; what <= 4; what++) {
                due("count(" + what + ") in state " + state, made(state).count(what), want[state][what]);
            }
        }
    }
}
