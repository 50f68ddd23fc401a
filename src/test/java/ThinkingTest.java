import java.util.Random;

/** Promises 18 to 27: what is found in thought. */
public final class ThinkingTest {
    private static final int NONE = NeverHalted.NONE;

    public static void main(String[] args) {
        promise18Cover();
        promise19Watches();
        promise19WatchesOfTen();
        promise20Tour();
        promise21Meets();
        promise22Sees();
        promise23Fits();
        promise24Crossed();
        promise25Line();
        promise26Owes();
        promise27Asks();
        nothingStays();
        Due.close();
    }

    private static NeverHalted walkers(int many) {
        NeverHalted x = new NeverHalted();
        for (int i = 0; i < many; i++) {
            x.walker(i % 8, 0);
        }
        return x;
    }

    private static void promise18Cover() {
        NeverHalted x = walkers(3);
        Due.is("LEAST 0", x.cover(0), 0);
        Due.is("LEAST 0", x.cover(1), 0);
        x.set(0, 0, 1);
        Due.is("no shifts", x.cover(0), NONE);
        Due.is("no shifts", x.cover(1), NONE);
        Due.told(x, 3, "walker 0 from 0 for 12;walker 0 from 6 for 12;walker 1 from 12 for 12;walker 2 from 18 for 12;", 4);
        Due.is("two", x.cover(0), 2);
        Due.is("0 and 2 are less than 1 and 3", x.cover(1), 5);
        Due.is("another what", x.cover(2), NONE);
        Due.is("another what", x.cover(-1), NONE);
        x.set(0, 0, 2);
        Due.is("of one walker two lines count once", x.cover(0), NONE);
        Due.told(x, 3, "walker 0 from 5 for 24;walker 0 from 0 for 24;walker 1 from 0 for 13;walker 2 from 12 for 12;"
            + "walker 1 from 12 for 13;", 5);
        Due.is("unlike ones", x.cover(0), 3);
        Due.is("the least set", x.cover(1), 1 + 4 + 8);
        x.set(0, 0, 10);
        Due.is("too many", x.cover(0), NONE);
        NeverHalted many = walkers(10);
        many.set(0, 0, 10);
        StringBuilder b = new StringBuilder();
        for (int w = 9; w >= 0; w--) {
            b.append("walker ").append(w).append("from 7for 24;");
        }
        Due.told(many, 3, b.toString(), 10);
        Due.is("all of them", many.cover(1), 1023);
        Due.told(many, 0, "stay;", 1);
        Due.is("who goes is not asked", many.cover(0), 10);
    }

    private static void promise19Watches() {
        NeverHalted x = new NeverHalted();
        Due.is("nobody is needed", x.watches(0), 0);
        Due.is("no such walker", x.watches(10), NONE);
        x.set(0, 0, 1);
        Due.is("nobody is there", x.watches(0), NONE);
        x.walker(0, 0);
        Due.is("one can't be in 0 and 1", x.watches(0), NONE);
        Due.is("one can't be in 0 and 1", x.watches(10), NONE);
        x.walker(0, 1);
        Due.is("two can", x.watches(0), 240);
        Due.is("0 and 2", x.watches(10), 5);
        Due.is("1 and 3", x.watches(11), 6);
        Due.told(x, 1, "tire 3 when clock=0 and lame=1;tire 4 when clock=12 and lame=1;tire 5;", 3);
        Due.is("the lame one is cheaper by 1 and 2", x.watches(0), 6 * 17);
        Due.is("1 and 3", x.watches(10), 6);
        Due.is("0 and 2", x.watches(11), 5);
        x.walker(0, 0);
        Due.is("the first way", x.watches(10), 0);
        Due.is("the first way", x.watches(11), 5);
        Due.is("the first way", x.watches(12), 6);
        Due.is("no such walker", x.watches(13), NONE);
        int[] none = {1, 9, -1, 20, Integer.MIN_VALUE, Integer.MAX_VALUE};
        for (int what : none) {
            Due.is("another what " + what, x.watches(what), NONE);
        }
        Due.told(x, 1, "tire 0;", 1);
        Due.is("at no cost", x.watches(0), 0);
        Due.is("nobody takes more than is needed", x.watches(10), 0);
        x.set(0, 0, 0);
        Due.is("none taken", x.watches(12), 0);
        Due.told(x, 1, "tire clock;", 1);
        x.set(0, 0, 1);
        x.hours(5);
        Due.is("asked with the watch's clock", x.watches(0), 6 * (0 + 6 + 12 + 18));
    }

    /** Ten walkers against a table over all that the watches still need. */
    private static void promise19WatchesOfTen() {
        Random random = new Random(19);
        for (int turn = 0; turn < 60; turn++) {
            int many = 6 + random.nextInt(5);
            NeverHalted x = walkers(many);
            int spread = 1 + random.nextInt(60);
            int[][] price = new int[many][4];
            Due.tell(x, 1, turn % 2 == 0 ? "tire feet+clock/6;" : "tire feet when clock<12;tire 50-feet/2;");
            for (int w = 0; w < many; w++) {
                int feet = random.nextInt(spread);
                x.set(4, w, feet);
                for (int i = 0; i < 4; i++) {
                    price[w][i] = 6 * (turn % 2 == 0 ? feet + i : i < 2 ? feet : 50 - feet / 2);
                }
            }
            int least = random.nextInt(6);
            x.set(0, 0, least);
            int[] due = new WatchTable(price, least).way();
            Due.is("sum of " + turn, x.watches(0), due == null ? NONE : due[many]);
            for (int w = 0; w < many; w++) {
                Due.is("walker " + w + " of " + turn, x.watches(10 + w), due == null ? NONE : due[w]);
            }
        }
    }

    /** The least price of walkers w .. for each set of needs, from the last walker on. */
    private static final class WatchTable {
        private static final int[][] TAKEN = {{}, {0}, {1}, {2}, {3}, {0, 2}, {1, 3}};
        private static final int NEVER = 1000000;
        private final int[][] price;
        private final int least;
        private final int[][] table;

        WatchTable(int[][] price, int least) {
            this.price = price;
            this.least = least;
            int side = least + 1;
            table = new int[price.length + 1][side * side * side * side];
            for (int w = price.length; w >= 0; w--) {
                for (int needs = 0; needs < table[w].length; needs++) {
                    int best = w == price.length ? needs == 0 ? 0 : NEVER : NEVER;
                    for (int t = 0; t < TAKEN.length && w < price.length; t++) {
                        best = Math.min(best, with(w, needs, t));
                    }
                    table[w][needs] = best;
                }
            }
        }

        private int with(int w, int needs, int t) {
            int sum = 0;
            for (int i : TAKEN[t]) {
                sum += price[w][i];
            }
            return sum + table[w + 1][less(needs, t)];
        }

        private int less(int needs, int t) {
            int[] each = new int[4];
            int rest = needs;
            for (int i = 0; i < 4; i++) {
                each[i] = rest % (least + 1);
                rest /= least + 1;
            }
            for (int i : TAKEN[t]) {
                each[i] = Math.max(0, each[i] - 1);
            }
            int then = 0;
            for (int i = 3; i >= 0; i--) {
                then = then * (least + 1) + each[i];
            }
            return then;
        }

        /** What each takes, and the sum behind them; null if there is no way. */
        int[] way() {
            int needs = table[0].length - 1;
            if (table[0][needs] >= NEVER) {
                return null;
            }
            int[] way = new int[price.length + 1];
            way[price.length] = table[0][needs];
            for (int w = 0; w < price.length; w++) {
                int t = 0;
                while (with(w, needs, t) != table[w][needs]) {
                    t++;
                }
                way[w] = t;
                needs = less(needs, t);
            }
            return way;
        }
    }

    private static void promise20Tour() {
        NeverHalted x = new NeverHalted();
        for (int n = -1; n < 10; n++) {
            Due.is("no roads", x.tour(n, 0), NONE);
        }
        for (int a = 0; a < 8; a++) {
            for (int b = 0; b < a; b++) {
                x.road(a, b, 10);
            }
        }
        for (int n = 2; n <= 8; n++) {
            Due.is("all alike", x.tour(n, 0), 10 * n);
            for (int i = 0; i < n; i++) {
                Due.is("the first way", x.tour(n, 10 + i), i);
            }
            Due.is("behind the last one", x.tour(n, 10 + n), NONE);
        }
        Due.is("one alone", x.tour(1, 0), NONE);
        Due.is("one alone", x.tour(1, 10), NONE);
        Due.is("nine", x.tour(9, 0), NONE);
        Due.is("another what", x.tour(8, 1), NONE);
        Due.is("another what", x.tour(8, -1), NONE);
        int[] way = {0, 3, 1, 7, 5, 2, 6, 4};
        for (int i = 0; i < 8; i++) {
            x.road(way[i], way[(i + 1) % 8], 3);
        }
        Due.is("a shorter way", x.tour(8, 0), 24);
        for (int i = 0; i < 8; i++) {
            Due.is("a shorter way", x.tour(8, 10 + i), way[i]);
        }
        x.road(0, 3, 99);
        x.road(0, 4, 0);
        Due.no("another way", x.tour(8, 0) == NONE);
        for (int i = 1; i < 7; i++) {
            x.road(0, i, 0);
        }
        Due.is("there is one road from 0", x.tour(8, 0), NONE);
        Due.is("two of them: there and back", x.tour(2, 0), NONE);
        x.road(0, 1, 6);
        Due.is("two of them: there and back", x.tour(2, 0), 12);
        Due.is("the way of two", x.tour(2, 11), 1);
    }

    private static void promise21Meets() {
        NeverHalted x = walkers(1);
        Due.is("no round", x.meets(0, 5, 0), NONE);
        Due.told(x, 2, "stone 0 for 4 food 0;stone 1 for 6 food 0;", 2);
        Due.told(x, 3, "walker 0 from 0 for 24;", 1);
        Due.is("now", x.meets(0, 7, 0), 0);
        Due.is("3, 13", x.meets(3, 7, 6), 13);
        Due.is("by remainders never", x.meets(3, 4, 2), NONE);
        Due.is("by remainders", x.meets(3, 4, 1), 13);
        Due.is("each hour", x.meets(9, 1, 0), 9);
        Due.is("the last turn", x.meets(9, 999, 988), firstOf(9, 10, 988, 999));
        x.hours(5);
        Due.is("gone by", x.meets(4, 1, 0), 9);
        Due.is("here", x.meets(5, 3, 0), 0);
        int[][] cannot = {{-1, 5, 0}, {10, 5, 0}, {0, 0, 0}, {0, 1000, 0}, {0, 5, 5}, {0, 5, -1}};
        for (int[] c : cannot) {
            Due.is("can't be", x.meets(c[0], c[1], c[2]), NONE);
        }
    }

    private static int firstOf(int a, int all, int d, int m) {
        int t = a;
        while (t % m != d) {
            t += all;
        }
        return t;
    }

    private static void promise22Sees() {
        NeverHalted x = walkers(1);
        Due.is("no round", x.sees(0, 1, 0), NONE);
        Due.told(x, 2, "stone 0 for 4 food 0;stone 1 for 2 food 0;stone 2 for 6 food 0;", 3);
        Due.told(x, 3, "walker 0 from 0 for 24;", 1);
        Due.is("at STONE 0 now", x.sees(0, 9, 0), 0);
        Due.is("at STONE 0 now", x.sees(0, 9, 1), 0);
        Due.is("2 hours back, it comes in 4", x.sees(2, 2, 0), 1);
        Due.is("2 hours back, it comes in 4", x.sees(2, 2, 1), 4);
        Due.is("too slow: his own", x.sees(2, 3, 0), 2);
        Due.is("too slow: his own", x.sees(2, 3, 1), 6);
        x.hours(1);
        Due.is("1 comes in 3, 2 hours off", x.sees(2, 1, 0), 1);
        Due.is("2 times 2 hours are too many for 3", x.sees(2, 2, 0), 2);
        Due.is("STONE 0 is just left", x.sees(0, 9, 1), 11);
        Due.is("2 comes in 5; the other way 6, or 6", x.sees(0, 1, 0), 0);
        Due.told(x, 2, "stone 0 for 9 food 0;stone 1 for 9 food 0;stone 2 for 2 food 0;", 3);
        x.hours(1);
        Due.is("2 hours against the round", x.sees(0, 8, 0), 2);
        Due.is("2 hours against the round", x.sees(0, 8, 1), 17);
        Due.is("18 hours are too many for 17", x.sees(0, 9, 0), 0);
        Due.told(x, 2, "stone 0 for 3 food 0;", 1);
        x.hours(1);
        Due.is("one stone", x.sees(0, 9, 1), 2);
        int[][] cannot = {{-1, 1, 0}, {1, 1, 0}, {0, 0, 0}, {0, 10, 0}, {0, 1, 2}, {0, 1, -1}};
        for (int[] c : cannot) {
            Due.is("can't be", x.sees(c[0], c[1], c[2]), NONE);
        }
    }

    private static void promise23Fits() {
        NeverHalted x = walkers(2);
        x.set(4, 0, 20);
        Due.is("walked once of three: 20 + 10 - 10", x.fits(0, 3, 20, 0), 3);
        Due.is("the first: in HOUR 2", x.fits(0, 3, 20, 1), 4);
        Due.is("all walked", x.fits(0, 10, 120, 1), 1023);
        Due.is("none walked", x.fits(0, 4, 0, 1), 0);
        x.set(4, 0, 5);
        Due.is("0 at least: 5, 0, 0, 10", x.fits(0, 3, 10, 0), 1);
        Due.is("0 at least: 5, 0, 0, 10", x.fits(0, 3, 10, 1), 4);
        Due.is("no way", x.fits(0, 3, 21, 0), 0);
        Due.is("no way", x.fits(0, 3, 21, 1), NONE);
        x.set(4, 0, 995);
        Due.is("999 at most", x.fits(0, 1, 999, 1), 1);
        Due.told(x, 1, "tire row*10+1;ease 1 when clock=1 and day=1;ease 0;", 3);
        x.set(4, 0, 0);
        Due.is("in a row: 1 + 11 + 21", x.fits(0, 3, 33, 1), 7);
        Due.is("rested between: 1 + 1", x.fits(0, 3, 2, 1), 5);
        for (int i = 0; i < 2; i++) {
            x.hours(12);
        }
        x.set(4, 0, 5);
        Due.is("the second hour is clock 1 of day 1", x.fits(0, 2, 4, 1), 0);
        Due.is("the first is not", x.fits(0, 1, 4, 0), 0);
        Due.told(x, 0, "stay;", 1);
        Due.is("who goes is not asked", x.fits(0, 1, 6, 1), 1);
        int[][] cannot = {{-1, 1, 0, 0}, {2, 1, 0, 0}, {0, 0, 0, 0}, {0, 11, 0, 0}, {0, 1, -1, 0}, {0, 1, 1000, 0},
            {0, 1, 0, 2}, {0, 1, 0, -1}};
        for (int[] c : cannot) {
            Due.is("can't be", x.fits(c[0], c[1], c[2], c[3]), NONE);
        }
    }

    private static void promise24Crossed() {
        NeverHalted x = new NeverHalted();
        Due.is("no flood", x.crossed(12, 12), 1000000);
        Due.is("too few hours", x.crossed(12, 11), 0);
        x.set(2, 0, 1000);
        Due.is("always a flood", x.crossed(1, 30), 0);
        x.set(2, 0, 333);
        Due.is("667000", x.crossed(1, 1), 667000);
        Due.is("667000 + 333000 * 667 by 1000", x.crossed(1, 2), 667000 + 222111);
        Due.is("downwards", x.crossed(1, 3), 667000 + 222111 + 110889 * 667 / 1000);
        Due.is("all at r stays", x.crossed(2, 2), 667000 * 667 / 1000);
        int[][] cannot = {{0, 1}, {13, 1}, {1, -1}, {1, 31}};
        for (int[] c : cannot) {
            Due.is("can't be", x.crossed(c[0], c[1]), NONE);
        }
        Due.is("the edges", x.crossed(1, 0), 0);
        Due.no("the edges", x.crossed(12, 30) == NONE);
    }

    private static void promise25Line() {
        NeverHalted x = walkers(8);
        Due.is("nobody goes", x.line(0), NONE);
        StringBuilder b = new StringBuilder();
        for (int w = 0; w < 8; w++) {
            b.append("walker ").append(w).append(" from 0 for 12;");
        }
        Due.told(x, 3, b.toString(), 8);
        int[] feet = {50, 10, 30, 10, 0, 70, 20, 5};
        for (int w = 0; w < 8; w++) {
            x.set(4, w, feet[w]);
        }
        x.set(5, 6, 1);
        x.set(5, 1, 1);
        x.set(5, 4, 1);
        due(x, 7, 3, 2, 1, 4, 6, 0, 5);
        x.set(4, 2, 10);
        due(x, 7, 2, 3, 1, 4, 6, 0, 5);
        Due.told(x, 0, "stay when feet=70 or feet=0;", 1);
        due(x, 7, 2, 1, 6, 3, 0);
        Due.told(x, 0, "stay when lame=0;", 1);
        due(x, 1, 4, 6);
        Due.told(x, 0, "stay when lame=1;", 1);
        due(x, 7, 2, 3, 0, 5);
        Due.is("no such place", x.line(-1), NONE);
        Due.is("no such place", x.line(Integer.MAX_VALUE), NONE);
    }

    private static void due(NeverHalted x, int... line) {
        for (int i = 0; i < line.length; i++) {
            Due.is("line(" + i + ")", x.line(i), line[i]);
        }
        Due.is("behind the last one", x.line(line.length), NONE);
    }

    private static void promise26Owes() {
        NeverHalted x = new NeverHalted();
        Due.is("without walkers", x.owes(0, 99999), 0);
        int[] parishes = {5, 5, 5, 2, 2, 7, 0};
        for (int p : parishes) {
            x.walker(p, 0);
        }
        Due.is("nothing", x.owes(5, 0), 0);
        int[] ofNine = {1, 0, 3, 0, 0, 4, 0, 1};
        int[] ofTen = {2, 0, 3, 0, 0, 4, 0, 1};
        int[] ofMost = {14286, 0, 28571, 0, 0, 42857, 0, 14285};
        for (int p = 0; p < 8; p++) {
            Due.is("of 9 to " + p, x.owes(p, 9), ofNine[p]);
            Due.is("of 10 to " + p, x.owes(p, 10), ofTen[p]);
            Due.is("of 99999 to " + p, x.owes(p, 99999), ofMost[p]);
        }
        int[][] cannot = {{-1, 1}, {8, 1}, {0, -1}, {0, 100000}};
        for (int[] c : cannot) {
            Due.is("can't be", x.owes(c[0], c[1]), NONE);
        }
    }

    private static void promise27Asks() {
        NeverHalted x = walkers(4);
        Due.is("of several the least", x.asks(0), 0);
        Due.told(x, 3, "walker 0 from 0 for 12;walker 3 from 12 for 12;", 2);
        Due.is("without a shift", x.asks(11), 1);
        Due.is("without a shift", x.asks(12), 0);
        x.set(5, 2, 1);
        Due.told(x, 1, "tire 3 when clock=4 and lame=1;tire 20 when lame=1;", 2);
        Due.is("asked with that clock", x.asks(4), 2);
        Due.is("asked with that clock", x.asks(5), 1);
        Due.told(x, 0, "stay;", 1);
        Due.is("who goes is not asked", x.asks(4), 2);
        Due.is("below", x.asks(-1), NONE);
        Due.is("above", x.asks(24), NONE);
        Due.told(x, 3, "walker 0 from 0 for 24;walker 1 from 0 for 24;walker 2 from 0 for 24;walker 3 from 0 for 23;", 4);
        Due.is("all have one", x.asks(22), NONE);
        Due.is("all but one", x.asks(23), 3);
    }

    private static void nothingStays() {
        NeverHalted x = walkers(4);
        Due.told(x, 2, "stone 0 for 4 river 2 food 3;stone 1 for 2 food 1;", 2);
        Due.told(x, 3, "walker 0 from 0 for 24;walker 1 from 0 for 24;", 2);
        x.set(0, 0, 2);
        x.hours(3);
        int[] before = new int[23];
        for (int what = 0; what < 23; what++) {
            before[what] = x.look(what);
        }
        x.goes(50, 4);
        x.cover(1);
        x.watches(11);
        x.tour(8, 0);
        x.meets(2, 7, 3);
        x.sees(1, 2, 1);
        x.fits(1, 10, 40, 0);
        x.crossed(3, 9);
        x.line(1);
        x.owes(2, 77);
        x.asks(4);
        for (int what = 0; what < 23; what++) {
            Due.is("look(" + what + ") after thoughts", x.look(what), before[what]);
        }
        Due.is("FEET after thoughts", x.of(1, 2), 30);
        Due.is("ROW after thoughts", x.of(1, 3), 3);
    }
}
