import java.util.ArrayList;
import java.util.Arrays;
import java.util.Comparator;
import java.util.List;
import java.util.function.ToIntFunction;

/**
 * The document once more, written as naively as can be and with the Java library: whole copies to undo,
 * trees of functions for laws, and searches that go through everything. The class is held against it.
 */
final class Model {
    static final int NONE = -1;

    static final class Fault extends RuntimeException {
        private static final long serialVersionUID = 1L;
        final int what;
        final int place;

        Fault(int what, int place) {
            this.what = what;
            this.place = place;
        }
    }

    /** What a law is told. */
    static final class Case {
        int feet, row, lame, clock, day, own, leg, river, food;
    }

    interface Number {
        int of(Case c);
    }

    interface Truth {
        boolean of(Case c);
    }

    static final class LawLine {
        String word;
        Number amount;
        Truth when;
    }

    static final class Stone {
        int parish, hours, river, food;
    }

    static final class Shift {
        int walker, from, hours;

        boolean has(int clock) {
            return Math.floorMod(clock - from, 24) < hours;
        }
    }

    static final class Walker {
        int parish, lame, feet, row;
    }

    /** All that the image keeps. */
    static final class World {
        int state, least, food, flood, war, hour, tooFew, halts, wars, rounds, leg, gone;
        List<Walker> walkers = new ArrayList<>();
        int[][] road = new int[8][8];
        List<LawLine> going = new ArrayList<>();
        List<LawLine> ofFeet = new ArrayList<>();
        List<Stone> round = new ArrayList<>();
        List<Shift> shifts = new ArrayList<>();
        List<int[]> book = new ArrayList<>();

        World copy() {
            World w = new World();
            w.state = state;
            w.least = least;
            w.food = food;
            w.flood = flood;
            w.war = war;
            w.hour = hour;
            w.tooFew = tooFew;
            w.halts = halts;
            w.wars = wars;
            w.rounds = rounds;
            w.leg = leg;
            w.gone = gone;
            for (Walker a : walkers) {
                Walker b = new Walker();
                b.parish = a.parish;
                b.lame = a.lame;
                b.feet = a.feet;
                b.row = a.row;
                w.walkers.add(b);
            }
            for (int i = 0; i < 8; i++) {
                w.road[i] = road[i].clone();
            }
            w.going = going;
            w.ofFeet = ofFeet;
            w.round = round;
            w.shifts = shifts;
            w.book.addAll(book);
            return w;
        }
    }

    World world = new World();
    World image;
    List<World> undos = new ArrayList<>();
    List<Integer> tape = new ArrayList<>();
    int fault = 0;
    int place = NONE;

    int state(int v) {
        int old = world.state;
        world.state = v;
        undos.clear();
        return old;
    }

    int walker(int parish, int lame) {
        if (parish < 0 || parish > 7 || lame < 0 || lame > 1 || world.walkers.size() == 10) {
            return NONE;
        }
        Walker w = new Walker();
        w.parish = parish;
        w.lame = lame;
        world.walkers.add(w);
        undos.clear();
        return world.walkers.size() - 1;
    }

    boolean isWalker(int w) {
        return w >= 0 && w < world.walkers.size();
    }

    boolean set(int what, int who, int v) {
        int[] most = {10, 9999, 1000, 1000, 999, 1};
        if (what < 0 || what > 5 || v < 0 || v > most[what] || what >= 4 && !isWalker(who)) {
            return false;
        }
        if (what == 0) world.least = v;
        if (what == 1) world.food = v;
        if (what == 2) world.flood = v;
        if (what == 3) world.war = v;
        if (what == 4) world.walkers.get(who).feet = v;
        if (what == 5) world.walkers.get(who).lame = v;
        undos.clear();
        return true;
    }

    boolean road(int a, int b, int hours) {
        if (Math.min(a, b) < 0 || Math.max(a, b) > 7 || a == b || hours < 0 || hours > 99) {
            return false;
        }
        world.road[a][b] = hours;
        world.road[b][a] = hours;
        return true;
    }

    int feed(int... numbers) {
        if (tape.size() > 380) {
            return NONE;
        }
        for (int n : numbers) {
            for (int i = 3; i >= 0; i--) {
                tape.add(n >> (8 * i) & 255);
            }
        }
        return tape.size();
    }

    boolean end(int n) {
        if (n < 0 || n > tape.size()) {
            return false;
        }
        tape = new ArrayList<>(tape.subList(0, n));
        return true;
    }

    int text(int k) {
        StringBuilder b = new StringBuilder();
        for (int c : tape) {
            b.append((char) c);
        }
        tape.clear();
        fault = 0;
        place = NONE;
        if (k < 0 || k > 3) {
            return NONE;
        }
        try {
            Parser p = new Parser(b.toString());
            if (k == 0) {
                world.going = p.law("go stay");
                return world.going.size();
            }
            if (k == 1) {
                world.ofFeet = p.law("tire ease eat");
                return world.ofFeet.size();
            }
            if (k == 2) {
                world.round = p.round();
                world.leg = 0;
                world.gone = 0;
                undos.clear();
                return world.round.size();
            }
            world.shifts = p.shifts(world.walkers.size());
            undos.clear();
            return world.shifts.size();
        } catch (Fault f) {
            fault = f.what;
            place = f.place;
            return NONE;
        }
    }

    int fault(int what) {
        return what == 0 ? fault : what == 1 ? place : NONE;
    }

    /** Works on the signs themselves, one look ahead; the grammar's rules each by their own. */
    static final class Parser {
        final String s;
        int at = 0;
        int open = 0;

        Parser(String s) {
            this.s = s;
        }

        void blanks() {
            while (at < s.length() && (s.charAt(at) == 32 || s.charAt(at) == 10)) {
                at++;
            }
        }

        /** The token that stands next, as text; "" at the end. */
        String peek() {
            blanks();
            if (at == s.length()) {
                return "";
            }
            int to = at + 1;
            String letters = "[A-Za-z]";
            String digits = "[0-9]";
            for (String kind : new String[] {letters, digits}) {
                if (s.substring(at, at + 1).matches(kind)) {
                    while (to < s.length() && s.substring(to, to + 1).matches(kind)) {
                        to++;
                    }
                }
            }
            return s.substring(at, to);
        }

        boolean sees(String... any) {
            return Arrays.asList(any).contains(peek()) && !peek().isEmpty();
        }

        Fault cannotStand() {
            blanks();
            return new Fault(1, at);
        }

        String take(String... any) {
            if (!sees(any)) {
                throw cannotStand();
            }
            String t = peek();
            at += t.length();
            return t;
        }

        boolean seesNumber() {
            return peek().matches("[0-9]{1,4}");
        }

        int number(int least, int most) {
            if (!seesNumber()) {
                throw cannotStand();
            }
            String t = peek();
            int v = Integer.parseInt(t);
            if (v < least || v > most) {
                throw new Fault(2, at);
            }
            at += t.length();
            return v;
        }

        void lineStarts(int lines, int most, String... words) {
            if (!sees(words)) {
                throw cannotStand();
            }
            if (lines == most) {
                throw new Fault(3, at);
            }
        }

        List<LawLine> law(String words) {
            List<LawLine> lines = new ArrayList<>();
            while (!peek().isEmpty()) {
                lineStarts(lines.size(), 16, words.split(" "));
                LawLine l = new LawLine();
                l.word = take(words.split(" "));
                if (words.startsWith("tire")) {
                    l.amount = e();
                }
                l.when = c -> true;
                if (sees("when")) {
                    take("when");
                    l.when = b();
                }
                take(";");
                lines.add(l);
            }
            return lines;
        }

        Truth b() {
            Truth left = a();
            while (sees("or")) {
                take("or");
                Truth l = left;
                Truth r = a();
                left = c -> l.of(c) || r.of(c);
            }
            return left;
        }

        Truth a() {
            Truth left = c();
            while (sees("and")) {
                take("and");
                Truth l = left;
                Truth r = c();
                left = c -> l.of(c) && r.of(c);
            }
            return left;
        }

        Truth c() {
            if (sees("not", "(")) {
                if (open == 8) {
                    throw new Fault(3, at);
                }
                open++;
                Truth t;
                if (take("not", "(").equals("not")) {
                    Truth inner = c();
                    t = c -> !inner.of(c);
                } else {
                    t = b();
                    take(")");
                }
                open--;
                return t;
            }
            Number l = e();
            String sign = take("<", "=", ">");
            Number r = e();
            return c -> sign.equals("<") ? l.of(c) < r.of(c) : sign.equals(">") ? l.of(c) > r.of(c) : l.of(c) == r.of(c);
        }

        Number e() {
            Number left = t();
            while (sees("+", "-")) {
                boolean plus = take("+", "-").equals("+");
                Number l = left;
                Number r = t();
                left = c -> plus ? l.of(c) + r.of(c) : l.of(c) - r.of(c);
            }
            return left;
        }

        Number t() {
            Number left = u();
            while (sees("*", "/")) {
                Number l = left;
                if (take("*", "/").equals("*")) {
                    Number r = u();
                    left = c -> l.of(c) * r.of(c);
                } else {
                    int part = number(1, 9999);
                    left = c -> l.of(c) / part;
                }
            }
            return left;
        }

        Number u() {
            if (seesNumber()) {
                int v = number(0, 9999);
                return c -> v;
            }
            switch (take("feet", "row", "lame", "clock", "day", "own", "leg", "river", "food")) {
                case "feet": return c -> c.feet;
                case "row": return c -> c.row;
                case "lame": return c -> c.lame;
                case "clock": return c -> c.clock;
                case "day": return c -> c.day;
                case "own": return c -> c.own;
                case "leg": return c -> c.leg;
                case "river": return c -> c.river;
                default: return c -> c.food;
            }
        }

        List<Stone> round() {
            List<Stone> stones = new ArrayList<>();
            while (!peek().isEmpty()) {
                lineStarts(stones.size(), 8, "stone");
                take("stone");
                Stone st = new Stone();
                st.parish = number(0, 7);
                take("for");
                st.hours = number(1, 24);
                if (sees("river")) {
                    take("river");
                    st.river = number(1, st.hours);
                }
                take("food");
                st.food = number(0, 99);
                take(";");
                stones.add(st);
            }
            return stones;
        }

        List<Shift> shifts(int walkers) {
            List<Shift> shifts = new ArrayList<>();
            while (!peek().isEmpty()) {
                lineStarts(shifts.size(), 16, "walker");
                take("walker");
                Shift sh = new Shift();
                sh.walker = number(0, walkers - 1);
                take("from");
                sh.from = number(0, 23);
                take("for");
                sh.hours = number(1, 24);
                take(";");
                shifts.add(sh);
            }
            return shifts;
        }
    }

    static Case caseOf(World w, int walker) {
        Walker a = w.walkers.get(walker);
        Case c = new Case();
        c.feet = a.feet;
        c.row = a.row;
        c.lame = a.lame;
        c.clock = w.hour % 24;
        c.day = w.hour / 24;
        c.own = !w.round.isEmpty() && w.round.get(w.leg).parish == a.parish ? 1 : 0;
        c.leg = w.leg;
        c.river = onRiver(w) ? 1 : 0;
        c.food = w.food;
        return c;
    }

    static boolean onRiver(World w) {
        if (w.round.isEmpty()) {
            return false;
        }
        Stone st = w.round.get(w.leg);
        return w.gone + 1 > st.hours - st.river;
    }

    static int amount(World w, String word, Case c) {
        for (LawLine l : w.ofFeet) {
            if (l.word.equals(word) && l.when.of(c)) {
                return Math.max(0, Math.min(99, l.amount.of(c)));
            }
        }
        return word.equals("tire") ? 10 : word.equals("ease") ? 5 : 1;
    }

    static boolean hasShift(World w, int walker, int clock) {
        return w.shifts.stream().anyMatch(s -> s.walker == walker && s.has(clock));
    }

    static boolean goesNow(World w, int walker) {
        if (!hasShift(w, walker, w.hour % 24)) {
            return false;
        }
        Case c = caseOf(w, walker);
        for (LawLine l : w.going) {
            if (l.when.of(c)) {
                return l.word.equals("go");
            }
        }
        return true;
    }

    static List<Integer> goers(World w) {
        List<Integer> all = new ArrayList<>();
        for (int i = 0; i < w.walkers.size(); i++) {
            if (goesNow(w, i)) {
                all.add(i);
            }
        }
        return all;
    }

    static int draw(World w, int m) {
        w.state = w.state * 1664525 + 1013904223;
        return (int) (((w.state & 0xffffffffL) >> 8) % m);
    }

    static void write(World w, int what, int number) {
        if (w.book.size() < 150) {
            w.book.add(new int[] {w.hour, what, number});
        }
    }

    static boolean hour(World w) {
        List<Integer> go = goers(w);
        int n = w.walkers.size();
        int[] tire = new int[n];
        int[] ease = new int[n];
        int[] eat = new int[n];
        for (int i = 0; i < n; i++) {
            tire[i] = amount(w, "tire", caseOf(w, i));
            ease[i] = amount(w, "ease", caseOf(w, i));
            eat[i] = amount(w, "eat", caseOf(w, i));
        }
        if (go.isEmpty()) {
            w.halts++;
            write(w, 1, 0);
        }
        boolean few = go.size() < w.least;
        if (few) {
            w.tooFew++;
            if (!go.isEmpty()) {
                write(w, 2, go.size());
            }
            if (w.war > 0 && draw(w, 1000) < w.war) {
                w.wars++;
                write(w, 4, 0);
            }
        }
        for (int i = 0; i < n; i++) {
            Walker a = w.walkers.get(i);
            if (go.contains(i)) {
                a.feet = Math.min(999, a.feet + tire[i]);
                a.row = Math.min(999, a.row + 1);
                w.food = Math.max(0, w.food - eat[i]);
            } else {
                a.feet = Math.max(0, a.feet - ease[i]);
                a.row = 0;
            }
        }
        if (!go.isEmpty() && !w.round.isEmpty()) {
            if (onRiver(w) && w.flood > 0 && draw(w, 1000) < w.flood) {
                write(w, 3, 0);
            } else {
                w.gone++;
                if (w.gone == w.round.get(w.leg).hours) {
                    w.gone = 0;
                    if (w.leg == w.round.size() - 1) {
                        w.rounds++;
                    }
                    w.leg = (w.leg + 1) % w.round.size();
                    w.food = Math.min(9999, w.food + w.round.get(w.leg).food);
                    write(w, 0, w.leg);
                }
            }
        }
        w.hour++;
        return few;
    }

    void keep() {
        undos.add(world.copy());
        if (undos.size() > 6) {
            undos.remove(0);
        }
    }

    int hours(int n) {
        if (n < 1 || n > 99 || world.hour + n > 9999) {
            return NONE;
        }
        int few = 0;
        for (int i = 0; i < n; i++) {
            keep();
            if (hour(world)) {
                few++;
            }
        }
        return few;
    }

    boolean move(int walker, int parish) {
        if (!isWalker(walker) || parish < 0 || parish > 7 || world.walkers.get(walker).parish == parish) {
            return false;
        }
        keep();
        world.walkers.get(walker).parish = parish;
        return true;
    }

    int carry(int n) {
        if (n < 1 || n > 999 || world.food + n > 9999) {
            return NONE;
        }
        keep();
        return world.food += n;
    }

    boolean undo() {
        if (undos.isEmpty()) {
            return false;
        }
        World old = undos.remove(undos.size() - 1);
        old.going = world.going;
        old.ofFeet = world.ofFeet;
        old.road = world.road;
        world = old;
        return true;
    }

    boolean image(boolean taken) {
        if (taken) {
            image = world.copy();
            return true;
        }
        if (image == null) {
            return false;
        }
        world = image.copy();
        undos.clear();
        return true;
    }

    int of(int walker, int what) {
        if (!isWalker(walker)) {
            return -2;
        }
        Walker a = world.walkers.get(walker);
        switch (what) {
            case 0: return a.parish;
            case 1: return a.lame;
            case 2: return a.feet;
            case 3: return a.row;
            case 4: return goesNow(world, walker) ? 1 : 0;
            case 5: return amount(world, "tire", caseOf(world, walker));
            case 6: return amount(world, "ease", caseOf(world, walker));
            case 7: return amount(world, "eat", caseOf(world, walker));
            case 8:
                int set = 0;
                for (int c = 0; c < 24; c++) {
                    set |= hasShift(world, walker, c) ? 1 << c : 0;
                }
                return set;
            default: return -2;
        }
    }

    int stone(int i, int what) {
        if (i < 0 || i >= world.round.size() || what < 0 || what > 3) {
            return NONE;
        }
        Stone s = world.round.get(i);
        return new int[] {s.parish, s.hours, s.river, s.food}[what];
    }

    int roadOf(int a, int b) {
        if (Math.min(a, b) < 0 || Math.max(a, b) > 7 || world.road[a][b] == 0) {
            return NONE;
        }
        return world.road[a][b];
    }

    int book(int i, int what) {
        return i < 0 || i >= world.book.size() || what < 0 || what > 2 ? NONE : world.book.get(i)[what];
    }

    int goes(int n, int what) {
        if (n < 1 || n > 99 || what < 0 || what > 4) {
            return NONE;
        }
        World w = world.copy();
        w.flood = 0;
        w.war = 0;
        int few = 0;
        int first = NONE;
        for (int i = 0; i < n; i++) {
            int h = w.hour;
            if (hour(w)) {
                few++;
                if (first == NONE) {
                    first = h;
                }
            }
        }
        int feet = w.walkers.stream().mapToInt(a -> a.feet).max().orElse(0);
        return new int[] {few, first, w.leg, w.gone, feet}[what];
    }

    int cover(int what) {
        if (what < 0 || what > 1) {
            return NONE;
        }
        int best = NONE;
        for (int set = 0; set < 1 << world.shifts.size(); set++) {
            boolean better = best == NONE || Integer.bitCount(set) < Integer.bitCount(best);
            if (better && covers(set)) {
                best = set;
            }
        }
        return best == NONE || what == 1 ? best : Integer.bitCount(best);
    }

    boolean covers(int set) {
        for (int c = 0; c < 24; c++) {
            int walkers = 0;
            for (int i = 0; i < world.shifts.size(); i++) {
                if ((set >> i & 1) != 0 && world.shifts.get(i).has(c)) {
                    walkers |= 1 << world.shifts.get(i).walker;
                }
            }
            if (Integer.bitCount(walkers) < world.least) {
                return false;
            }
        }
        return true;
    }

    static final int[][] TAKEN = {{}, {0}, {1}, {2}, {3}, {0, 2}, {1, 3}};
    int[] bestWay;
    int bestSum;

    int watches(int what) {
        if (what != 0 && !isWalker(what - 10)) {
            return NONE;
        }
        int n = world.walkers.size();
        int[][] cost = new int[n][4];
        for (int i = 0; i < n; i++) {
            for (int w = 0; w < 4; w++) {
                Case c = caseOf(world, i);
                c.clock = 6 * w;
                cost[i][w] = 6 * amount(world, "tire", c);
            }
        }
        bestWay = null;
        bestSum = Integer.MAX_VALUE;
        tryWatches(cost, 0, new int[n], new int[4], 0);
        if (bestWay == null) {
            return NONE;
        }
        return what == 0 ? bestSum : bestWay[what - 10];
    }

    void tryWatches(int[][] cost, int i, int[] way, int[] held, int sum) {
        if (sum >= bestSum) {
            return;
        }
        for (int w = 0; w < 4; w++) {
            if (held[w] + cost.length - i < world.least) {
                return;
            }
        }
        if (i == cost.length) {
            bestSum = sum;
            bestWay = way.clone();
            return;
        }
        for (int t = 0; t < TAKEN.length; t++) {
            int more = 0;
            for (int w : TAKEN[t]) {
                more += cost[i][w];
                held[w]++;
            }
            way[i] = t;
            tryWatches(cost, i + 1, way, held, sum + more);
            for (int w : TAKEN[t]) {
                held[w]--;
            }
        }
    }

    int tour(int n, int what) {
        if (n < 2 || n > 8 || what != 0 && (what < 10 || what >= 10 + n)) {
            return NONE;
        }
        bestWay = null;
        bestSum = Integer.MAX_VALUE;
        List<Integer> way = new ArrayList<>(List.of(0));
        tryTour(n, way, 0);
        return bestWay == null ? NONE : what == 0 ? bestSum : bestWay[what - 10];
    }

    void tryTour(int n, List<Integer> way, int sum) {
        int last = way.get(way.size() - 1);
        if (way.size() == n) {
            int back = world.road[last][0];
            if (back > 0 && sum + back < bestSum) {
                bestSum = sum + back;
                bestWay = way.stream().mapToInt(p -> p).toArray();
            }
            return;
        }
        for (int p = 1; p < n; p++) {
            if (!way.contains(p) && world.road[last][p] > 0) {
                way.add(p);
                tryTour(n, way, sum + world.road[last][p]);
                way.remove(way.size() - 1);
            }
        }
    }

    int all() {
        return world.round.stream().mapToInt(s -> s.hours).sum();
    }

    /** The hours from STONE 0 to a STONE. */
    int to(int stone) {
        return world.round.subList(0, stone).stream().mapToInt(s -> s.hours).sum();
    }

    int meets(int c, int m, int d) {
        if (c < 0 || c >= all() || m < 1 || m > 999 || d < 0 || d >= m) {
            return NONE;
        }
        int leg = world.leg;
        int gone = world.gone;
        for (int t = 0; t < all() * m; t++) {
            boolean here = to(leg) + gone == c;
            boolean there = t >= d && (t - d) % m == 0;
            if (here && there) {
                return t;
            }
            gone++;
            if (gone == world.round.get(leg).hours) {
                gone = 0;
                leg = (leg + 1) % world.round.size();
            }
        }
        return NONE;
    }

    int sees(int s, int k, int what) {
        int n = world.round.size();
        if (s < 0 || s >= n || k < 1 || k > 9 || what < 0 || what > 1) {
            return NONE;
        }
        int leg = world.leg;
        int gone = world.gone;
        for (int t = 0; t <= all(); t++) {
            if (gone == 0 && apart(s, leg) * k <= t) {
                return what == 0 ? leg : t;
            }
            gone++;
            if (gone == world.round.get(leg).hours) {
                gone = 0;
                leg = (leg + 1) % n;
            }
        }
        return NONE;
    }

    int apart(int a, int b) {
        int forth = 0;
        for (int i = a; i != b; i = (i + 1) % world.round.size()) {
            forth += world.round.get(i).hours;
        }
        int back = 0;
        for (int i = b; i != a; i = (i + 1) % world.round.size()) {
            back += world.round.get(i).hours;
        }
        return Math.min(forth, back);
    }

    int fits(int walker, int k, int v, int what) {
        if (!isWalker(walker) || k < 1 || k > 10 || v < 0 || v > 999 || what < 0 || what > 1) {
            return NONE;
        }
        int ways = 0;
        int first = NONE;
        for (int order = 0; order < 1 << k; order++) {
            int set = Integer.reverse(order) >>> (32 - k);
            Case c = caseOf(world, walker);
            for (int i = 0; i < k; i++) {
                c.clock = (world.hour + i) % 24;
                c.day = (world.hour + i) / 24;
                if ((set >> i & 1) != 0) {
                    c.feet = Math.min(999, c.feet + amount(world, "tire", c));
                    c.row = Math.min(999, c.row + 1);
                } else {
                    c.feet = Math.max(0, c.feet - amount(world, "ease", c));
                    c.row = 0;
                }
            }
            if (c.feet == v) {
                ways++;
                if (first == NONE) {
                    first = set;
                }
            }
        }
        return what == 0 ? ways : first;
    }

    int crossed(int r, int t) {
        if (r < 1 || r > 12 || t < 0 || t > 30) {
            return NONE;
        }
        long[] at = new long[r + 1];
        at[0] = 1000000;
        for (int i = 0; i < t; i++) {
            long[] then = at.clone();
            for (int j = 0; j < r; j++) {
                long on = at[j] * (1000 - world.flood) / 1000;
                then[j] -= on;
                then[j + 1] += on;
            }
            at = then;
        }
        return (int) at[r];
    }

    int line(int i) {
        List<Integer> sound = new ArrayList<>();
        List<Integer> lame = new ArrayList<>();
        for (int w : goers(world)) {
            (world.walkers.get(w).lame == 1 ? lame : sound).add(w);
        }
        sound.sort(Comparator.comparingInt(w -> world.walkers.get(w).feet * 100 + w));
        List<Integer> all = new ArrayList<>(sound);
        all.addAll(sound.size() - sound.size() / 2, lame);
        return i < 0 || i >= all.size() ? NONE : all.get(i);
    }

    int owes(int parish, int sum) {
        if (parish < 0 || parish > 7 || sum < 0 || sum > 99999) {
            return NONE;
        }
        int n = world.walkers.size();
        if (n == 0) {
            return 0;
        }
        ToIntFunction<Integer> whole = p -> (int) (sum * world.walkers.stream().filter(a -> a.parish == p).count());
        int[] share = new int[8];
        int left = sum;
        List<Integer> order = new ArrayList<>();
        for (int p = 0; p < 8; p++) {
            share[p] = whole.applyAsInt(p) / n;
            left -= share[p];
            order.add(p);
        }
        order.sort(Comparator.comparingInt((Integer p) -> -(whole.applyAsInt(p) % n)));
        for (int i = 0; i < left; i++) {
            share[order.get(i)]++;
        }
        return share[parish];
    }

    int asks(int clock) {
        if (clock < 0 || clock > 23) {
            return NONE;
        }
        int best = NONE;
        int least = 100;
        for (int i = 0; i < world.walkers.size(); i++) {
            Case c = caseOf(world, i);
            c.clock = clock;
            int tire = amount(world, "tire", c);
            if (!hasShift(world, i, clock) && tire < least) {
                best = i;
                least = tire;
            }
        }
        return best;
    }

    int look(int what) {
        World w = world;
        switch (what) {
            case 0: return w.walkers.size();
            case 1: return w.hour;
            case 2: return w.leg;
            case 3: return w.gone;
            case 4: return w.tooFew;
            case 5: return w.halts;
            case 6: return w.wars;
            case 7: return w.rounds;
            case 8: return w.food;
            case 9: return goers(w).stream().mapToInt(g -> 1 << g).sum();
            case 10: return w.book.size();
            case 11: return w.state;
            case 12: return w.going.size();
            case 13: return w.ofFeet.size();
            case 14: return w.round.size();
            case 15: return w.shifts.size();
            case 16: return undos.size();
            case 17: return all();
            case 20: return w.least;
            case 21: return w.flood;
            case 22: return w.war;
            default: return NONE;
        }
    }
}
