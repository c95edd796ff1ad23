import java.math.BigInteger;
import java.util.ArrayDeque;
import java.util.ArrayList;
import java.util.Deque;
import java.util.HashMap;
import java.util.HashSet;
import java.util.List;
import java.util.Map;
import java.util.Random;
import java.util.Set;
import java.util.TreeMap;
import java.util.regex.Matcher;
import java.util.regex.Pattern;

/**
 * Long rows of drawn calls (the same ones each time) on the class and on a second
 * telling of the document, written with the library and without the class's ways.
 */
public final class ModelTest {
    private static final int RUNS = 1500, CALLS = 512;
    private static final int BAD = -1, STATE = -2, FULL = -3, NONE = -9, NO = -1000000;

    private record Top(int place, int spin, int drag) {
        Top fallen() {
            return new Top(NONE, 0, drag);
        }

        Top spinning(int s) {
            return s <= 0 ? fallen() : new Top(place, s, drag);
        }

        Top moved(int p) {
            return new Top(p, spin, drag);
        }
    }

    private record World(int beat, int tilt, List<Top> tops) {
        List<Integer> standing() {
            List<Integer> found = new ArrayList<>();
            for (int t = 0; t < tops.size(); t++) {
                if (tops.get(t).place() != NONE) {
                    found.add(t);
                }
            }
            return found;
        }

        World tilted(int way) {
            return new World(beat, way, tops);
        }

        World with(int t, Top top) {
            List<Top> copy = new ArrayList<>(tops);
            copy.set(t, top);
            return new World(beat, tilt, copy);
        }

        World whipped(int t, int k) {
            return with(t, tops.get(t).spinning(Math.min(60, tops.get(t).spin() + k)));
        }

        World next(int places, int slow) {
            Map<Integer, Integer> ring = new HashMap<>();
            List<Top> to = new ArrayList<>();
            for (int t = 0; t < tops.size(); t++) {
                Top top = tops.get(t);
                to.add(top.place() == NONE ? top : top.spinning(top.spin() - top.drag()));
                if (to.get(t).place() != NONE) {
                    ring.put(to.get(t).place(), t);
                }
            }
            int step = tilt == 1 ? 1 : -1;
            for (int t = 0; tilt != 0 && t < to.size(); t++) {
                Top comer = to.get(t);
                if (comer.place() == NONE || comer.spin() > slow) {
                    continue;
                }
                int there = Math.floorMod(comer.place() + step, places);
                ring.remove(comer.place());
                Integer who = ring.get(there);
                if (who == null) {
                    to.set(t, comer.moved(there));
                } else if (comer.spin() > to.get(who).spin()) {
                    to.set(who, to.get(who).fallen());
                    ring.remove(there);
                    to.set(t, comer.moved(there).spinning(comer.spin() - 5));
                } else {
                    to.set(t, comer.fallen());
                    to.set(who, to.get(who).spinning(to.get(who).spin() - 5));
                    if (to.get(who).place() == NONE) {
                        ring.remove(there);
                    }
                }
                if (to.get(t).place() != NONE) {
                    ring.put(there, t);
                }
            }
            return new World(beat + 1, tilt, to);
        }
    }

    private record Sight(int v, int n, int s) {
    }

    private static final class Model {
        private static final Pattern TOKEN = Pattern.compile(" *([0-9]+|[^ ])", Pattern.DOTALL);
        private final StringBuilder text = new StringBuilder();
        private int places = 8, slow = 10;
        private World world = new World(0, 0, new ArrayList<>());
        private final Deque<World> past = new ArrayDeque<>();
        private final World[] images = new World[2];
        private final List<Sight> seen = new ArrayList<>();
        private long trace = 0;

        private int read() {
            List<String> tokens = new ArrayList<>();
            List<Integer> spots = new ArrayList<>();
            Matcher m = TOKEN.matcher(text);
            while (m.find()) {
                tokens.add(m.group(1));
                spots.add(m.start(1));
            }
            int ringed = 8, slowly = 10, items = 0;
            boolean slowTold = false;
            List<Top> tops = new ArrayList<>();
            Set<Integer> taken = new HashSet<>();
            List<Integer> numbers = new ArrayList<>();
            char item = 0;
            for (int i = 0; i < tokens.size(); i++) {
                String token = tokens.get(i);
                int fault = -10 - spots.get(i);
                int need = item == 't' ? 3 : 1;
                if (item == 0) {
                    boolean fits = token.equals("n") && items == 0 || token.equals("t") && tops.size() < 6
                        || token.equals("l") && !slowTold;
                    if (!fits) {
                        return fault;
                    }
                    item = token.charAt(0);
                } else if (numbers.size() < need) {
                    if (!token.matches("0|[1-9][0-9]?")) {
                        return fault;
                    }
                    int n = Integer.parseInt(token);
                    int at = numbers.size();
                    boolean fits = item == 'n' ? n >= 4 && n <= 10 : item == 'l' ? n <= 30
                        : at == 0 ? n < ringed && !taken.contains(n) : n >= 1 && n <= (at == 1 ? 60 : 9);
                    if (!fits) {
                        return fault;
                    }
                    numbers.add(n);
                } else {
                    if (!token.equals(";")) {
                        return fault;
                    }
                    if (item == 'n') {
                        ringed = numbers.get(0);
                    } else if (item == 'l') {
                        slowly = numbers.get(0);
                        slowTold = true;
                    } else {
                        tops.add(new Top(numbers.get(0), numbers.get(1), numbers.get(2)));
                        taken.add(numbers.get(0));
                    }
                    numbers.clear();
                    item = 0;
                    items++;
                }
            }
            if (item != 0) {
                return -10 - text.length();
            }
            places = ringed;
            slow = slowly;
            world = new World(0, 0, tops);
            past.clear();
            seen.clear();
            images[0] = null;
            images[1] = null;
            text.setLength(0);
            return items;
        }

        private boolean no(int number, int least, int most) {
            return number < least || number > most;
        }

        private boolean noTop(int t) {
            return no(t, 0, world.tops().size() - 1);
        }

        private World ahead(World from, int n) {
            World w = from;
            for (int i = 0; i < n; i++) {
                w = w.next(places, slow);
            }
            return w;
        }

        private int bits(World w) {
            return w.standing().stream().mapToInt(t -> 1 << t).sum();
        }

        private int fall(int t) {
            int n = 0;
            while (ahead(world, n).standing().contains(t)) {
                n++;
            }
            return n;
        }

        private int last() {
            int best = NONE;
            for (int t : world.standing()) {
                if (best == NONE || fall(t) > fall(best)) {
                    best = t;
                }
            }
            return best;
        }

        private int who(int place) {
            for (int t : world.standing()) {
                if (world.tops().get(t).place() == place) {
                    return t;
                }
            }
            return NONE;
        }

        private int at(int place) {
            return no(place, 0, places - 1) ? BAD : who(place);
        }

        private void become(World next) {
            past.addLast(world);
            if (past.size() > 10) {
                past.removeFirst();
            }
            world = next;
        }

        private int top(int t, int what) {
            if (noTop(t) || no(what, 0, 4)) {
                return BAD;
            }
            Top top = world.tops().get(t);
            return new int[] {top.place(), top.spin(), top.drag(), top.place() == NONE ? 0 : 1, fall(t)}[what];
        }

        private int now(int what) {
            if (no(what, 0, 5)) {
                return BAD;
            }
            int sum = world.tops().stream().mapToInt(Top::spin).sum();
            return new int[] {world.beat(), world.tilt(), bits(world), sum, last(), past.size()}[what];
        }

        private int beats() {
            if (world.beat() == 999) {
                return STATE;
            }
            int before = world.standing().size();
            become(world.next(places, slow));
            return before - world.standing().size();
        }

        private int whips(int t, int k) {
            if (noTop(t) || no(k, 1, 20)) {
                return BAD;
            }
            if (!world.standing().contains(t)) {
                return STATE;
            }
            become(world.whipped(t, k));
            return world.tops().get(t).spin();
        }

        private int tilts(int way) {
            if (no(way, 0, 2)) {
                return BAD;
            }
            int was = world.tilt();
            if (was == way) {
                return STATE;
            }
            become(world.tilted(way));
            return was;
        }

        private int sets(int t, int place) {
            if (noTop(t) || no(place, 0, places - 1)) {
                return BAD;
            }
            if (!world.standing().contains(t) || who(place) != NONE) {
                return STATE;
            }
            Top top = world.tops().get(t);
            become(world.with(t, top.moved(place)));
            return top.place();
        }

        private int undo() {
            if (past.isEmpty()) {
                return STATE;
            }
            world = past.removeLast();
            return past.size();
        }

        private int whip(int k, int n) {
            if (no(k, 1, 20) || no(n, 0, 60)) {
                return BAD;
            }
            TreeMap<Integer, Integer> lowest = new TreeMap<>();
            for (int t : world.standing()) {
                lowest.putIfAbsent(ahead(world.whipped(t, k), n).standing().size(), t);
            }
            return lowest.isEmpty() ? NONE : lowest.lastEntry().getValue();
        }

        /** How many stand, then the tilts. */
        private List<Integer> bestRow(World from, int n) {
            if (n == 0) {
                return List.of(from.standing().size());
            }
            List<Integer> best = null;
            for (int way = 0; way <= 2; way++) {
                List<Integer> rest = bestRow(from.tilted(way).next(places, slow), n - 1);
                if (best == null || rest.get(0) > best.get(0)) {
                    best = new ArrayList<>(rest);
                    best.add(1, way);
                }
            }
            return best;
        }

        private int row(int n, int k) {
            if (no(n, 0, 5) || no(k, -1, 4)) {
                return BAD;
            }
            return k >= n ? NONE : bestRow(world, n).get(k + 1);
        }

        private BigInteger chance(World from, List<Integer> left, int t, int x, int n) {
            if (left.isEmpty()) {
                return ahead(from, n).standing().contains(t) ? BigInteger.ONE : BigInteger.ZERO;
            }
            List<Integer> rest = left.subList(1, left.size());
            BigInteger hit = chance(from.whipped(left.get(0), 5), rest, t, x, n);
            BigInteger miss = chance(from, rest, t, x, n);
            return hit.multiply(BigInteger.valueOf(x)).add(miss.multiply(BigInteger.valueOf(10 - x)));
        }

        private int odds(int t, int x, int n, int what) {
            if (noTop(t) || no(x, 0, 10) || no(n, 0, 60) || no(what, 0, 1)) {
                return BAD;
            }
            BigInteger upper = chance(world, world.standing(), t, x, n);
            BigInteger lower = BigInteger.TEN.pow(world.standing().size());
            BigInteger both = upper.gcd(lower);
            return (what == 0 ? upper : lower).divide(both).intValueExact();
        }

        private int sees(int v, int n, int s) {
            if (no(v, 1, 60) || no(n, 1, 20) || no(s, 0, 60)) {
                return BAD;
            }
            if (seen.size() == 6) {
                return FULL;
            }
            seen.add(new Sight(v, n, s));
            return seen.size();
        }

        private int spun(int v, int n, int drag) {
            int spin = v;
            for (int i = 0; i < n && spin > 0; i++) {
                spin = spin > drag ? spin - drag : 0;
            }
            return spin;
        }

        private List<Integer> possible() {
            List<Integer> found = new ArrayList<>();
            for (int drag = 1; drag <= 9; drag++) {
                int d = drag;
                if (seen.stream().allMatch(g -> spun(g.v(), g.n(), d) == g.s())) {
                    found.add(d);
                }
            }
            return found;
        }

        private int drags(int what) {
            List<Integer> found = possible();
            if (no(what, 0, 2)) {
                return BAD;
            }
            if (what == 0) {
                return found.size();
            }
            return found.isEmpty() ? NONE : found.get(what == 1 ? 0 : found.size() - 1);
        }

        private int look(int v) {
            if (no(v, 1, 60)) {
                return BAD;
            }
            List<Integer> found = possible();
            if (found.size() < 2) {
                return NONE;
            }
            TreeMap<Integer, Integer> least = new TreeMap<>();
            for (int n = 1; n <= 20; n++) {
                Map<Integer, Integer> alike = new HashMap<>();
                for (int drag : found) {
                    alike.merge(spun(v, n, drag), 1, Integer::sum);
                }
                least.putIfAbsent(alike.values().stream().max(Integer::compare).orElseThrow(), n);
            }
            return least.firstEntry().getValue();
        }

        private int rate(int kind, int t) {
            if (no(kind, 0, 5) || noTop(t)) {
                return NO;
            }
            Top top = world.tops().get(t);
            int many = world.standing().size();
            trace += new int[] {1, 11, 101, 1011, 10101, 100001}[kind];
            return new int[] {top.spin(), top.spin() + top.drag(), top.spin() - many,
                2 * (top.spin() + top.drag()), top.spin() - many + t, top.spin() + world.beat()}[kind];
        }

        private int keep(int image) {
            if (no(image, 0, 1)) {
                return BAD;
            }
            images[image] = world;
            return world.beat();
        }

        private int back(int image) {
            if (no(image, 0, 1)) {
                return BAD;
            }
            if (images[image] == null) {
                return STATE;
            }
            world = images[image];
            past.clear();
            return world.beat();
        }

        private int count(int what) {
            return no(what, 0, 4) ? BAD
                : new int[] {places, world.tops().size(), slow, seen.size(), text.length()}[what];
        }

        private int type(int letter) {
            if (no(letter, 0, 255)) {
                return BAD;
            }
            return text.length() == 120 ? FULL : text.append((char) letter).length();
        }

        private int clear() {
            int had = text.length();
            text.setLength(0);
            return had;
        }
    }

    private final Random drawn;
    private final SpinTops real = new SpinTops();
    private final Model model = new Model();
    private final Deque<Integer> toType = new ArrayDeque<>();
    private String call = "";

    private ModelTest(long seed) {
        drawn = new Random(seed);
    }

    private int draw(int least, int most) {
        // Now and then a number just beyond what it may be, or far beyond.
        switch (drawn.nextInt(40)) {
            case 0: return least - 1;
            case 1: return most + 1;
            case 2: return drawn.nextInt();
            case 3: return drawn.nextBoolean() ? least : most;
            default: return least + drawn.nextInt(most - least + 1);
        }
    }

    private String drawText() {
        StringBuilder s = new StringBuilder();
        int places = drawn.nextBoolean() ? 4 + drawn.nextInt(7) : 8;
        if (places != 8) {
            s.append("n").append(places).append(";");
        }
        if (drawn.nextBoolean()) {
            s.append("l").append(drawn.nextInt(31)).append(";");
        }
        List<Integer> free = new ArrayList<>();
        for (int p = 0; p < places; p++) {
            free.add(p);
        }
        int tops = drawn.nextInt(7);
        for (int t = 0; t < tops && !free.isEmpty(); t++) {
            int spin = 1 + drawn.nextInt(drawn.nextBoolean() ? 60 : 20);
            s.append("t").append(free.remove(drawn.nextInt(free.size()))).append(" ").append(spin)
                .append(drawn.nextBoolean() ? " " : "  ").append(1 + drawn.nextInt(9)).append(";");
        }
        String letters = "ntl; 0123456789;; x:/m~";
        while (drawn.nextInt(3) == 0 && s.length() > 0) {
            int at = drawn.nextInt(s.length());
            char letter = letters.charAt(drawn.nextInt(letters.length()));
            switch (drawn.nextInt(3)) {
                case 0: s.deleteCharAt(at); break;
                case 1: s.insert(at, letter); break;
                default: s.setCharAt(at, letter); break;
            }
        }
        return s.toString();
    }

    private long[] both(String name, long got, long want) {
        call = name;
        return new long[] {got, want};
    }

    private long[] step() {
        if (!toType.isEmpty()) {
            int letter = toType.removeFirst();
            if (letter < 0) {
                return both("tray()", real.tray(), model.read());
            }
            return both("type(" + letter + ")", real.type(letter), model.type(letter));
        }
        int a = draw(0, 5), b = draw(0, 9), n = draw(0, drawn.nextBoolean() ? 60 : 8);
        switch (drawn.nextInt(30)) {
            case 0: return tellAnew();
            case 1: return both("type", real.type(n), model.type(n));
            case 2: return both("top", real.top(a, b % 6), model.top(a, b % 6));
            case 3: return both("at(" + b + ")", real.at(b), model.at(b));
            case 4: case 5: return both("now", real.now(a), model.now(a));
            case 6: case 7: case 8: case 9: return both("beats", real.beats(), model.beats());
            case 10: case 11: return whips(a);
            case 12: case 13: return tilts();
            case 14: return both("sets", real.sets(a, b), model.sets(a, b));
            case 15: case 16: return both("undo", real.undo(), model.undo());
            case 17: return both("stand(" + n + ")", real.stand(n),
                n < 0 || n > 60 ? BAD : model.bits(model.ahead(model.world, n)));
            case 18: case 19: return whip(n);
            case 20: return row();
            case 21: case 22: return odds(a, n);
            case 23: return sees();
            case 24: return both("drags", real.drags(a % 4), model.drags(a % 4));
            case 25: return look();
            case 26: return both("rate", real.rate(a, b % 7), model.rate(a, b % 7));
            case 27: return both("keep", real.keep(a % 3), model.keep(a % 3));
            case 28: return both("back", real.back(a % 3), model.back(a % 3));
            default: return both("count", real.count(a), model.count(a));
        }
    }

    private long[] tellAnew() {
        String text = drawText();
        for (int i = 0; i < text.length(); i++) {
            toType.addLast((int) text.charAt(i));
        }
        toType.addLast(-1);
        return both("clear()", real.clear(), model.clear());
    }

    private long[] whips(int t) {
        int k = draw(1, 20);
        return both("whips(" + t + ", " + k + ")", real.whips(t, k), model.whips(t, k));
    }

    private long[] tilts() {
        int way = draw(0, 2);
        return both("tilts(" + way + ")", real.tilts(way), model.tilts(way));
    }

    private long[] whip(int n) {
        int k = draw(1, 20);
        return both("whip(" + k + ", " + n + ")", real.whip(k, n), model.whip(k, n));
    }

    private long[] row() {
        int n = draw(0, 5), k = draw(-1, 4);
        return both("row(" + n + ", " + k + ")", real.row(n, k), model.row(n, k));
    }

    private long[] odds(int t, int n) {
        int x = draw(0, 10), what = draw(0, 1);
        return both("odds(" + t + ", " + x + ", " + n + ", " + what + ")",
            real.odds(t, x, n, what), model.odds(t, x, n, what));
    }

    private long[] sees() {
        if (drawn.nextInt(6) == 0) {
            int had = model.seen.size();
            model.seen.clear();
            return both("forget()", real.forget(), had);
        }
        int v = draw(1, 60), n = draw(1, drawn.nextBoolean() ? 20 : 4);
        boolean fits = v > 0 && n > 0 && n < 100 && drawn.nextInt(8) != 0;
        int s = fits ? model.spun(v, n, 1 + drawn.nextInt(3)) : draw(0, 60);
        return both("sees(" + v + ", " + n + ", " + s + ")", real.sees(v, n, s), model.sees(v, n, s));
    }

    private long[] look() {
        int v = draw(1, 60);
        return both("look(" + v + ")", real.look(v), model.look(v));
    }

    private boolean sameNow() {
        boolean same = real.trace() == model.trace;
        for (int what = 0; what <= 3; what++) {
            same &= real.now(what) == model.now(what);
        }
        same &= real.now(5) == model.past.size();
        for (int t = 0; t < 6; t++) {
            for (int what = 0; what <= 3; what++) {
                same &= real.top(t, what) == model.top(t, what);
            }
        }
        for (int what = 0; what <= 4; what++) {
            same &= real.count(what) == model.count(what);
        }
        return same;
    }

    private boolean run(long seed) {
        tellAnew();
        for (int i = 0; i < CALLS; i++) {
            long[] answers = step();
            if (answers[0] != answers[1]) {
                System.out.println("run " + seed + ", call " + i + ": " + call + " answered " + answers[0]
                    + ", due is " + answers[1]);
                return false;
            }
            if (i % 8 == 0 && !sameNow()) {
                System.out.println("run " + seed + ", behind call " + i + ": " + call + ": not as it must be");
                return false;
            }
        }
        return true;
    }

    public static void main(String[] args) {
        int wrong = 0;
        for (long seed = 0; seed < RUNS; seed++) {
            if (!new ModelTest(seed).run(seed)) {
                wrong++;
            }
        }
        System.out.println(wrong == 0 ? RUNS + " runs are as the model's" : wrong + " runs are not");
        if (wrong != 0) {
            System.exit(1);
        }
    }
}
