/**
 * Spinning tops on a round tray, told by a text. All rows are made once, in the
 * constructor, and used again: no call makes an object.
 */
public final class SpinTops {
    public static final int BAD = -1, STATE = -2, FULL = -3, NONE = -9;
    public static final int NO = -1000000;

    private static final int MOST_TOPS = 6, FEWEST_PLACES = 4, MOST_PLACES = 10, FIRST_PLACES = 8;
    private static final int MOST_SPIN = 60, MOST_DRAG = 9, MOST_SLOW = 30, FIRST_SLOW = 10;
    private static final int MOST_LETTERS = 120, MOST_LETTER = 255, MOST_NUMBER = 99;
    private static final int LEVEL = 0, ONWARDS = 1, WAYS = 3;
    private static final int MOST_BEATS = 999, MOST_AHEAD = 60, MOST_WHIP = 20, KNOCK = 5;
    private static final int MOST_ROW = 5, ODDS_WHIP = 5, ODDS_OF = 10;
    private static final int MOST_UNDONE = 10, MOST_IMAGES = 2;
    private static final int MOST_SEEN = 6, MOST_WAIT = 20;
    private static final int FAULT_BASE = -10;

    private final Text text = new Text();
    private final Reader reader = new Reader(text);
    private final Told told = new Told();
    private final Moment now = new Moment();
    private final Past past = new Past();
    private final Moment[] images = new Moment[MOST_IMAGES];
    private final boolean[] kept = new boolean[MOST_IMAGES];
    private final Future future = new Future();
    private final Seen seen = new Seen();
    private final Kinds kinds = new Kinds();

    public SpinTops() {
        for (int i = 0; i < MOST_IMAGES; i++) {
            images[i] = new Moment();
        }
    }

    // ---- the tray

    public int type(int letter) {
        if (!within(letter, 0, MOST_LETTER)) {
            return BAD;
        }
        return text.add(letter) ? text.length : FULL;
    }

    public int clear() {
        int had = text.length;
        text.length = 0;
        return had;
    }

    public int tray() {
        int items = reader.read();
        if (items < 0) {
            return items;
        }
        told.copy(reader.draft);
        now.copy(reader.start);
        past.known = 0;
        seen.known = 0;
        for (int i = 0; i < MOST_IMAGES; i++) {
            kept[i] = false;
        }
        text.length = 0;
        return items;
    }

    public int top(int t, int what) {
        if (!isTop(t)) {
            return BAD;
        }
        switch (what) {
            case 0: return now.place[t];
            case 1: return now.spin[t];
            case 2: return told.drag[t];
            case 3: return now.stands(t) ? 1 : 0;
            case 4: return future.fall(told, now, t);
            default: return BAD;
        }
    }

    public int at(int place) {
        return isPlace(place) ? now.who(place) : BAD;
    }

    public int now(int what) {
        switch (what) {
            case 0: return now.beat;
            case 1: return now.tilt;
            case 2: return now.standing();
            case 3: return now.allSpins();
            case 4: return future.last(told, now);
            case 5: return past.known;
            default: return BAD;
        }
    }

    // ---- what is done

    public int beats() {
        if (now.beat >= MOST_BEATS) {
            return STATE;
        }
        past.remember(now);
        return now.goBy(told, 1);
    }

    public int whips(int t, int k) {
        if (!isTop(t) || !isWhip(k)) {
            return BAD;
        }
        if (!now.stands(t)) {
            return STATE;
        }
        past.remember(now);
        now.whipped(t, k);
        return now.spin[t];
    }

    public int tilts(int way) {
        if (!within(way, 0, WAYS - 1)) {
            return BAD;
        }
        int was = now.tilt;
        if (was == way) {
            return STATE;
        }
        past.remember(now);
        now.tilt = way;
        return was;
    }

    public int sets(int t, int place) {
        if (!isTop(t) || !isPlace(place)) {
            return BAD;
        }
        if (!now.stands(t) || now.who(place) != NONE) {
            return STATE;
        }
        past.remember(now);
        int till = now.place[t];
        now.place[t] = place;
        return till;
    }

    public int undo() {
        return past.recall(now) ? past.known : STATE;
    }

    // ---- what comes, what is best

    public int stand(int n) {
        return isAhead(n) ? future.standing(told, now, n) : BAD;
    }

    public int whip(int k, int n) {
        return isWhip(k) && isAhead(n) ? future.bestWhip(told, now, k, n) : BAD;
    }

    public int row(int n, int k) {
        if (!within(n, 0, MOST_ROW) || !within(k, -1, MOST_ROW - 1)) {
            return BAD;
        }
        future.findRow(told, now, n);
        if (k < 0) {
            return future.rowStands;
        }
        return k < n ? future.tiltOf(future.rowBest, n, k) : NONE;
    }

    public int odds(int t, int x, int n, int what) {
        if (!isTop(t) || !within(x, 0, ODDS_OF) || !isAhead(n) || !within(what, 0, 1)) {
            return BAD;
        }
        future.findOdds(told, now, t, x, n);
        return what == 0 ? future.oddsUpper : future.oddsLower;
    }

    // ---- how much drag

    public int sees(int v, int n, int s) {
        if (!isSpin(v) || !within(n, 1, MOST_WAIT) || !within(s, 0, MOST_SPIN)) {
            return BAD;
        }
        return seen.add(v, n, s) ? seen.known : FULL;
    }

    public int forget() {
        int was = seen.known;
        seen.known = 0;
        return was;
    }

    public int drags(int what) {
        switch (what) {
            case 0: return seen.howMany();
            case 1: return seen.least();
            case 2: return seen.greatest();
            default: return BAD;
        }
    }

    public int look(int v) {
        return isSpin(v) ? seen.bestWait(v) : BAD;
    }

    // ---- kinds, images

    public int rate(int kind, int t) {
        if (!isTop(t)) {
            return NO;
        }
        switch (kind) {
            case 0: return kinds.asTop(now, t);
            case 1: return kinds.asPeg(told, now, t);
            case 2: return kinds.asHummer(now, t);
            case 3: return kinds.asWhipper(told, now, t);
            case 4: return kinds.asDisc(now, t);
            case 5: return kinds.asAcorn(now, t);
            default: return NO;
        }
    }

    public int keep(int image) {
        if (!isImage(image)) {
            return BAD;
        }
        images[image].copy(now);
        kept[image] = true;
        return now.beat;
    }

    public int back(int image) {
        if (!isImage(image)) {
            return BAD;
        }
        if (!kept[image]) {
            return STATE;
        }
        now.copy(images[image]);
        past.known = 0;
        return now.beat;
    }

    public int count(int what) {
        switch (what) {
            case 0: return told.places;
            case 1: return told.tops;
            case 2: return told.slow;
            case 3: return seen.known;
            case 4: return text.length;
            default: return BAD;
        }
    }

    public long trace() {
        return kinds.trace;
    }

    // ---- what a number may be

    private boolean isTop(int t) {
        return within(t, 0, told.tops - 1);
    }

    private boolean isPlace(int place) {
        return within(place, 0, told.places - 1);
    }

    private static boolean isSpin(int v) {
        return within(v, 1, MOST_SPIN);
    }

    private static boolean isWhip(int k) {
        return within(k, 1, MOST_WHIP);
    }

    private static boolean isAhead(int n) {
        return within(n, 0, MOST_AHEAD);
    }

    private static boolean isImage(int image) {
        return within(image, 0, MOST_IMAGES - 1);
    }

    private static boolean within(int number, int least, int most) {
        return number >= least && number <= most;
    }

    private static int power(int base, int times) {
        int product = 1;
        for (int i = 0; i < times; i++) {
            product *= base;
        }
        return product;
    }

    /** THE TEXT, as far as it has been typed. */
    private static final class Text {
        private final int[] letters = new int[MOST_LETTERS];
        private int length = 0;

        private boolean add(int letter) {
            if (length >= MOST_LETTERS) {
                return false;
            }
            letters[length] = letter;
            length++;
            return true;
        }
    }

    /** What a text tells once and no call changes: the tray, and what drags on each top. */
    private static final class Told {
        private final int[] drag = new int[MOST_TOPS];
        private int places = FIRST_PLACES;
        private int slow = FIRST_SLOW;
        private int tops = 0;

        private void copy(Told other) {
            places = other.places;
            slow = other.slow;
            tops = other.tops;
            System.arraycopy(other.drag, 0, drag, 0, MOST_TOPS);
        }

        private void reset() {
            places = FIRST_PLACES;
            slow = FIRST_SLOW;
            tops = 0;
        }
    }

    /** How things are at one time. Who does not stand has place NONE and spin 0. */
    private static final class Moment {
        private final int[] place = new int[MOST_TOPS];
        private final int[] spin = new int[MOST_TOPS];
        private int beat = 0;
        private int tilt = LEVEL;

        private Moment() {
            reset();
        }

        private void reset() {
            beat = 0;
            tilt = LEVEL;
            for (int t = 0; t < MOST_TOPS; t++) {
                spins(t, 0);
            }
        }

        private void copy(Moment other) {
            beat = other.beat;
            tilt = other.tilt;
            System.arraycopy(other.place, 0, place, 0, MOST_TOPS);
            System.arraycopy(other.spin, 0, spin, 0, MOST_TOPS);
        }

        private boolean stands(int t) {
            return spin[t] > 0;
        }

        private int who(int there) {
            for (int t = 0; t < MOST_TOPS; t++) {
                if (stands(t) && place[t] == there) {
                    return t;
                }
            }
            return NONE;
        }

        private int standing() {
            int bits = 0;
            for (int t = 0; t < MOST_TOPS; t++) {
                if (stands(t)) {
                    bits |= 1 << t;
                }
            }
            return bits;
        }

        private int howMany() {
            return Integer.bitCount(standing());
        }

        private int lowest() {
            for (int t = 0; t < MOST_TOPS; t++) {
                if (stands(t)) {
                    return t;
                }
            }
            return NONE;
        }

        private int allSpins() {
            int sum = 0;
            for (int t = 0; t < MOST_TOPS; t++) {
                sum += spin[t];
            }
            return sum;
        }

        private void whipped(int t, int k) {
            spin[t] = Math.min(MOST_SPIN, spin[t] + k);
        }

        /** Who would have 0 or less falls. */
        private void spins(int t, int fast) {
            if (fast > 0) {
                spin[t] = fast;
            } else {
                spin[t] = 0;
                place[t] = NONE;
            }
        }

        /** So many BEATS: how many fall. */
        private int goBy(Told told, int beats) {
            int before = howMany();
            for (int i = 0; i < beats; i++) {
                beat++;
                slowDown(told);
                if (tilt != LEVEL) {
                    wander(told);
                }
            }
            return before - howMany();
        }

        private void slowDown(Told told) {
            for (int t = 0; t < MOST_TOPS; t++) {
                if (stands(t)) {
                    spins(t, spin[t] - told.drag[t]);
                }
            }
        }

        /** Each is looked at in its turn: who was knocked slow by a lower one goes, too. */
        private void wander(Told told) {
            for (int t = 0; t < MOST_TOPS; t++) {
                if (!stands(t) || spin[t] > told.slow) {
                    continue;
                }
                int there = neighbour(place[t], told.places);
                int other = who(there);
                if (other != NONE) {
                    meet(t, other);
                }
                if (stands(t)) {
                    place[t] = there;
                }
            }
        }

        private int neighbour(int from, int places) {
            if (tilt == ONWARDS) {
                return from + 1 < places ? from + 1 : 0;
            }
            return from > 0 ? from - 1 : places - 1;
        }

        private void meet(int comer, int other) {
            boolean comerIsFaster = spin[comer] > spin[other];
            int winner = comerIsFaster ? comer : other;
            spins(comerIsFaster ? other : comer, 0);
            spins(winner, spin[winner] - KNOCK);
        }
    }

    /** The latest moments ahead of what was done, in a ring: the oldest is lost when it is full. */
    private static final class Past {
        private final Moment[] moments = new Moment[MOST_UNDONE];
        private int next = 0;
        private int known = 0;

        private Past() {
            for (int i = 0; i < MOST_UNDONE; i++) {
                moments[i] = new Moment();
            }
        }

        private void remember(Moment now) {
            moments[next].copy(now);
            next = next + 1 < MOST_UNDONE ? next + 1 : 0;
            known = Math.min(MOST_UNDONE, known + 1);
        }

        private boolean recall(Moment now) {
            if (known == 0) {
                return false;
            }
            next = next > 0 ? next - 1 : MOST_UNDONE - 1;
            now.copy(moments[next]);
            known--;
            return true;
        }
    }

    /** Reads a text into a draft, so that a fault changes nothing of what was told before. */
    private static final class Reader {
        private static final int END = -1, NUMBER = -2, WRONG = -3;

        private final Text text;
        private final Told draft = new Told();
        private final Moment start = new Moment();
        private int items = 0;
        private boolean slowIsTold = false;
        /** The latest token: what it is, a number's value, where it begins; and what is behind it. */
        private int token = END;
        private int value = 0;
        private int begin = 0;
        private int behind = 0;

        private Reader(Text text) {
            this.text = text;
        }

        /** How many items; -10 less the fault. */
        private int read() {
            draft.reset();
            start.reset();
            items = 0;
            slowIsTold = false;
            behind = 0;
            nextToken();
            // An item has three letters at least, so there are fewer turns than letters.
            for (int turn = 0; turn < MOST_LETTERS && token != END; turn++) {
                boolean fits = false;
                switch (token) {
                    case 'n': fits = items == 0 && readPlaces(); break;
                    case 't': fits = draft.tops < MOST_TOPS && readTop(); break;
                    case 'l': fits = !slowIsTold && readSlow(); break;
                    default: break;
                }
                if (!fits) {
                    return FAULT_BASE - begin;
                }
                items++;
                nextToken();
            }
            return items;
        }

        private boolean readPlaces() {
            if (!readNumber(FEWEST_PLACES, MOST_PLACES)) {
                return false;
            }
            draft.places = value;
            return readItemEnd();
        }

        private boolean readSlow() {
            if (!readNumber(0, MOST_SLOW)) {
                return false;
            }
            draft.slow = value;
            slowIsTold = true;
            return readItemEnd();
        }

        private boolean readTop() {
            if (!readNumber(0, draft.places - 1) || start.who(value) != NONE) {
                return false;
            }
            int place = value;
            if (!readNumber(1, MOST_SPIN)) {
                return false;
            }
            int spin = value;
            if (!readNumber(1, MOST_DRAG)) {
                return false;
            }
            start.place[draft.tops] = place;
            start.spin[draft.tops] = spin;
            draft.drag[draft.tops] = value;
            draft.tops++;
            return readItemEnd();
        }

        private boolean readNumber(int least, int most) {
            nextToken();
            return token == NUMBER && within(value, least, most);
        }

        private boolean readItemEnd() {
            nextToken();
            return token == ';';
        }

        private void nextToken() {
            begin = behindBlanks();
            behind = begin;
            if (begin >= text.length) {
                token = END;
                return;
            }
            int letter = text.letters[begin];
            if (isDigit(letter)) {
                takeNumber();
                return;
            }
            behind = begin + 1;
            boolean known = letter == 'n' || letter == 't' || letter == 'l' || letter == ';';
            token = known ? letter : WRONG;
        }

        private int behindBlanks() {
            for (int i = behind; i < text.length; i++) {
                if (text.letters[i] != ' ') {
                    return i;
                }
            }
            return text.length;
        }

        private void takeNumber() {
            value = 0;
            for (; behind < text.length && isDigit(text.letters[behind]); behind++) {
                // A long row of digits must not wrap round to a small number.
                value = Math.min(MOST_NUMBER + 1, value * 10 + text.letters[behind] - '0');
            }
            boolean zeroAhead = text.letters[begin] == '0' && behind > begin + 1;
            token = zeroAhead || value > MOST_NUMBER ? WRONG : NUMBER;
        }

        private static boolean isDigit(int letter) {
            return letter >= '0' && letter <= '9';
        }
    }

    /** What comes if beats alone go by, tried out on a copy of how things are. */
    private static final class Future {
        private final Moment trial = new Moment();
        /** What findRow found: how many stand, and the row as a number, a digit of base 3 a tilt. */
        private int rowStands = 0;
        private int rowBest = 0;
        /** What findOdds found. */
        private int oddsUpper = 0;
        private int oddsLower = 1;

        private int standing(Told told, Moment now, int n) {
            trial.copy(now);
            trial.goBy(told, n);
            return trial.standing();
        }

        private int fall(Told told, Moment now, int t) {
            trial.copy(now);
            int beats = 0;
            for (; beats < MOST_AHEAD && trial.stands(t); beats++) {
                trial.goBy(told, 1);
            }
            return beats;
        }

        private int last(Told told, Moment now) {
            trial.copy(now);
            int last = trial.lowest();
            for (int beats = 0; beats < MOST_AHEAD && trial.lowest() != NONE; beats++) {
                last = trial.lowest();
                trial.goBy(told, 1);
            }
            return last;
        }

        private int bestWhip(Told told, Moment now, int k, int n) {
            int best = NONE;
            int most = -1;
            for (int t = 0; t < told.tops; t++) {
                if (!now.stands(t)) {
                    continue;
                }
                trial.copy(now);
                trial.whipped(t, k);
                trial.goBy(told, n);
                if (trial.howMany() > most) {
                    most = trial.howMany();
                    best = t;
                }
            }
            return best;
        }

        private void findRow(Told told, Moment now, int n) {
            rowStands = -1;
            rowBest = 0;
            int rows = power(WAYS, n);
            for (int row = 0; row < rows; row++) {
                trial.copy(now);
                for (int i = 0; i < n; i++) {
                    trial.tilt = tiltOf(row, n, i);
                    trial.goBy(told, 1);
                }
                if (trial.howMany() > rowStands) {
                    rowStands = trial.howMany();
                    rowBest = row;
                }
            }
        }

        /** The first tilt is the highest digit, so that rows come in the document's order. */
        private int tiltOf(int row, int n, int k) {
            int rest = row;
            for (int i = n - 1; i > k; i--) {
                rest /= WAYS;
            }
            return rest % WAYS;
        }

        private void findOdds(Told told, Moment now, int t, int x, int n) {
            int standing = now.standing();
            int all = now.howMany();
            oddsUpper = 0;
            oddsLower = power(ODDS_OF, all);
            for (int hit = 0; hit < 1 << MOST_TOPS; hit++) {
                if ((hit & ~standing) != 0) {
                    continue;
                }
                int hits = Integer.bitCount(hit);
                int weight = power(x, hits) * power(ODDS_OF - x, all - hits);
                if (weight > 0 && standsIfHit(told, now, t, hit, n)) {
                    oddsUpper += weight;
                }
            }
            // The lower number is a power of 10: 2 and 5 alone can divide both.
            for (int i = 0; i < all; i++) {
                divideOddsBy2();
                divideOddsBy5();
            }
        }

        private void divideOddsBy2() {
            if (oddsUpper % 2 == 0 && oddsLower % 2 == 0) {
                oddsUpper /= 2;
                oddsLower /= 2;
            }
        }

        private void divideOddsBy5() {
            if (oddsUpper % 5 == 0 && oddsLower % 5 == 0) {
                oddsUpper /= 5;
                oddsLower /= 5;
            }
        }

        private boolean standsIfHit(Told told, Moment now, int t, int hit, int n) {
            trial.copy(now);
            for (int i = 0; i < MOST_TOPS; i++) {
                if ((hit >> i & 1) != 0) {
                    trial.whipped(i, ODDS_WHIP);
                }
            }
            trial.goBy(told, n);
            return trial.stands(t);
        }
    }

    /** What was seen of an unknown top, and the drags by which all of it is so. */
    private static final class Seen {
        private final int[] first = new int[MOST_SEEN];
        private final int[] beats = new int[MOST_SEEN];
        private final int[] spun = new int[MOST_SEEN];
        private int known = 0;

        private boolean add(int v, int n, int s) {
            if (known >= MOST_SEEN) {
                return false;
            }
            first[known] = v;
            beats[known] = n;
            spun[known] = s;
            known++;
            return true;
        }

        private static int spinBehind(int v, int n, int drag) {
            return Math.max(0, v - n * drag);
        }

        private boolean canBe(int drag) {
            for (int i = 0; i < known; i++) {
                if (spinBehind(first[i], beats[i], drag) != spun[i]) {
                    return false;
                }
            }
            return true;
        }

        private int howMany() {
            int many = 0;
            for (int drag = 1; drag <= MOST_DRAG; drag++) {
                if (canBe(drag)) {
                    many++;
                }
            }
            return many;
        }

        private int least() {
            for (int drag = 1; drag <= MOST_DRAG; drag++) {
                if (canBe(drag)) {
                    return drag;
                }
            }
            return NONE;
        }

        private int greatest() {
            for (int drag = MOST_DRAG; drag >= 1; drag--) {
                if (canBe(drag)) {
                    return drag;
                }
            }
            return NONE;
        }

        private int bestWait(int v) {
            if (howMany() <= 1) {
                return NONE;
            }
            int best = NONE;
            int fewest = MOST_DRAG + 1;
            for (int n = 1; n <= MOST_WAIT; n++) {
                int alike = mostAlike(v, n);
                if (alike < fewest) {
                    fewest = alike;
                    best = n;
                }
            }
            return best;
        }

        private int mostAlike(int v, int n) {
            int most = 0;
            for (int drag = 1; drag <= MOST_DRAG; drag++) {
                if (canBe(drag)) {
                    most = Math.max(most, howManyAlike(v, n, spinBehind(v, n, drag)));
                }
            }
            return most;
        }

        private int howManyAlike(int v, int n, int spin) {
            int many = 0;
            for (int drag = 1; drag <= MOST_DRAG; drag++) {
                if (canBe(drag) && spinBehind(v, n, drag) == spin) {
                    many++;
                }
            }
            return many;
        }
    }

    /** The kinds' bodies; each asks the one of the kind above, once, and marks the trace. */
    private static final class Kinds {
        private long trace = 0;

        private int asTop(Moment now, int t) {
            trace += 1;
            return now.spin[t];
        }

        private int asPeg(Told told, Moment now, int t) {
            trace += 10;
            return asTop(now, t) + told.drag[t];
        }

        private int asHummer(Moment now, int t) {
            trace += 100;
            return asTop(now, t) - now.howMany();
        }

        private int asWhipper(Told told, Moment now, int t) {
            trace += 1000;
            return 2 * asPeg(told, now, t);
        }

        private int asDisc(Moment now, int t) {
            trace += 10000;
            return asHummer(now, t) + t;
        }

        private int asAcorn(Moment now, int t) {
            trace += 100000;
            return asTop(now, t) + now.beat;
        }
    }
}
