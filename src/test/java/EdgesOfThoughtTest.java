/** Section 4 of the document, sentence by sentence: what is done in thought, to undo, the image. */
public final class EdgesOfThoughtTest {
    private static final int NONE = NeverHalted.NONE;

    public static void main(String[] args) {
        goesDrawsNothing();
        goesOfTheFirstShortHour();
        goesToLegAndGone();
        goesToTheGreatestFeet();
        goesBeyondTheLastHour();
        goesAsHoursGo();
        coverOfNothing();
        coverOfEachClock();
        coverOfUnlikeWalkers();
        coverTheFewestThenTheLeast();
        coverOfSixteenLines();
        coverOfTen();
        watchesOfNone();
        watchesThatAreEnough();
        watchesTheFirstWay();
        watchesAskTire();
        watchesOfUnlikeWalkers();
        watchesOfTheMost();
        tourThereAndBack();
        tourEachOnce();
        tourTheFirstWay();
        tourOfTheMost();
        meetsNow();
        meetsAllOfTheRound();
        meetsByRemainders();
        meetsTheLastHour();
        meetsAndSeesThoughNobodyGoes();
        seesWhenOrSooner();
        seesHisOwn();
        seesEitherWay();
        seesLegItself();
        fitsAtTheBounds();
        fitsAllOrNone();
        fitsTheFirst();
        fitsAsTheyGo();
        fitsAtRowsEnd();
        fitsAllElseAsNow();
        crossedAtTheBounds();
        crossedDownwards();
        lineByHalves();
        lineByFeetThenNumber();
        owesDownwardsAndLeftOver();
        owesOfSeveralTheLeast();
        owesWithoutWalkers();
        asksWithoutAShift();
        asksOfSeveralTheLeast();
        undoKeepsSix();
        undoOfEach();
        undoGoesBackInAll();
        undoIsForgotten();
        undoIsNotForgotten();
        imageOfAll();
        imageMoreThanOnce();
        imageTakenAnew();
        imageButTheTape();
        imageOfTheBook();
        Due.close();
    }

    private static NeverHalted goers(int many) {
        NeverHalted x = walkers(many);
        StringBuilder shifts = new StringBuilder();
        for (int i = 0; i < many; i++) {
            shifts.append("walker ").append(i).append(" from 0 for 24;");
        }
        Due.told(x, 3, shifts.toString(), many);
        return x;
    }

    private static NeverHalted walkers(int many) {
        NeverHalted x = new NeverHalted();
        for (int i = 0; i < many; i++) {
            x.walker(i % 8, 0);
        }
        return x;
    }

    // ---- GOES ----

    /** "no DRAWS: no war, no flood". */
    private static void goesDrawsNothing() {
        NeverHalted x = goers(1);
        Due.told(x, 2, "stone 0 for 2 river 2 food 0;stone 1 for 5 river 5 food 0;", 2);
        x.set(0, 0, 2);
        x.set(2, 0, 1000);
        x.set(3, 0, 1000);
        Due.is("short", x.goes(3, 0), 3);
        Due.is("over a flood", x.goes(3, 2), 1);
        Due.is("over a flood", x.goes(3, 3), 1);
        Due.is("STATE", x.look(11), 0);
        Due.is("WARS", x.look(6), 0);
        Due.is("no line", x.look(10), 0);
        x.hours(3);
        Due.is("but hours mark time", x.look(2), 0);
        Due.is("but hours have wars", x.look(6), 3);
    }

    /** "how many are SHORT, the first such HOUR". */
    private static void goesOfTheFirstShortHour() {
        NeverHalted x = walkers(1);
        x.set(0, 0, 1);
        Due.told(x, 3, "walker 0 from 0 for 10;", 1);
        Due.is("none", x.goes(10, 0), 0);
        Due.is("none", x.goes(10, 1), NONE);
        Due.is("one", x.goes(11, 0), 1);
        Due.is("the last of them", x.goes(11, 1), 10);
        Due.is("many", x.goes(99, 0), 14 * 4);
        Due.is("the first of them", x.goes(99, 1), 10);
        x.hours(10);
        Due.is("now", x.goes(1, 0), 1);
        Due.is("now", x.goes(1, 1), 10);
        x.hours(14);
        Due.is("HOUR, not CLOCK", x.goes(20, 1), 34);
        x.set(0, 0, 0);
        Due.is("LEAST 0", x.goes(99, 0), 0);
        Due.is("LEAST 0", x.goes(99, 1), NONE);
    }

    /** "LEG then, GONE then". */
    private static void goesToLegAndGone() {
        NeverHalted x = goers(1);
        Due.told(x, 2, "stone 0 for 24 food 0;stone 1 for 24 food 0;stone 2 for 24 food 0;", 3);
        int[][] due = {{1, 0, 1}, {23, 0, 23}, {24, 1, 0}, {25, 1, 1}, {71, 2, 23}, {72, 0, 0}, {99, 1, 3}};
        for (int[] d : due) {
            Due.is("LEG in " + d[0], x.goes(d[0], 2), d[1]);
            Due.is("GONE in " + d[0], x.goes(d[0], 3), d[2]);
        }
        Due.told(x, 0, "stay when clock>4;", 1);
        x.set(0, 0, 1);
        Due.is("when the HOURS have gone by, not at the first short one", x.goes(30, 3), 10);
        Due.told(x, 0, "stay;", 1);
        Due.is("nobody", x.goes(99, 3), 0);
    }

    /** "the greatest FEET": of all WALKERS, when the HOURS have gone by. */
    private static void goesToTheGreatestFeet() {
        NeverHalted x = new NeverHalted();
        Due.is("without WALKERS", x.goes(5, 4), 0);
        x = goers(1);
        x.walker(0, 0);
        Due.is("of who goes", x.goes(3, 4), 30);
        x.set(4, 1, 100);
        Due.is("of who stays", x.goes(3, 4), 85);
        Due.is("of who goes", x.goes(10, 4), 100);
        Due.is("999 at most", x.goes(99, 4), 990);
        x.set(4, 0, 500);
        Due.is("999 at most", x.goes(99, 4), 999);
        Due.is("nothing stays", x.of(0, 2), 500);
        x = goers(10);
        Due.is("of ten", x.goes(2, 4), 20);
        x.set(4, 9, 7);
        Due.is("of the tenth", x.goes(2, 4), 27);
        x.set(4, 0, 8);
        Due.is("of the first", x.goes(2, 4), 28);
    }

    private static void goesBeyondTheLastHour() {
        NeverHalted x = walkers(1);
        for (int i = 0; i < 101; i++) {
            x.hours(99);
        }
        x.set(0, 0, 1);
        Due.is("hours can't", x.hours(1), NONE);
        Due.is("thoughts can", x.goes(99, 0), 99);
        Due.is("from now", x.goes(99, 1), 9999);
        Due.told(x, 3, "walker 0 from 15 for 2;", 1);
        Due.is("HOUR 10001", x.goes(99, 1), 10001);
    }

    /** Without draws what is thought is what is done then: FEET, ROW, FOOD, LEG and CLOCK go on in thought, too. */
    private static void goesAsHoursGo() {
        for (int n = 1; n <= 99; n += 7) {
            NeverHalted x = goers(4);
            Due.told(x, 0, "stay when feet>60 and own=0;stay when row>5;stay when food=0 and clock<9;stay when day=2 and leg=1;", 4);
            Due.told(x, 1, "tire 6+river*9+leg;ease 4+day;eat 2;", 3);
            Due.told(x, 2, "stone 0 for 3 food 30;stone 1 for 5 river 2 food 0;stone 3 for 2 river 2 food 9;", 3);
            x.set(0, 0, 3);
            x.set(1, 0, 20);
            x.hours(2);
            int[] thought = new int[5];
            for (int what = 0; what < 5; what++) {
                thought[what] = x.goes(n, what);
            }
            int lines = x.look(10);
            Due.is("SHORT in " + n, thought[0], x.hours(n));
            Due.is("LEG in " + n, thought[2], x.look(2));
            Due.is("GONE in " + n, thought[3], x.look(3));
            int feet = 0;
            for (int w = 0; w < 4; w++) {
                feet = Math.max(feet, x.of(w, 2));
            }
            Due.is("FEET in " + n, thought[4], feet);
            int first = NONE;
            for (int i = x.look(10) - 1; i >= lines; i--) {
                boolean few = x.book(i, 1) == 1 || x.book(i, 1) == 2;
                first = few ? x.book(i, 0) : first;
            }
            Due.is("the first HOUR in " + n, thought[1], first);
        }
    }

    // ---- COVER ----

    private static void covers(NeverHalted x, int many, int set) {
        Due.is("how many", x.cover(0), many);
        Due.is("the set", x.cover(1), set);
    }

    private static void coverOfNothing() {
        NeverHalted x = new NeverHalted();
        covers(x, 0, 0);
        x.set(0, 0, 1);
        covers(x, NONE, NONE);
        x = goers(2);
        covers(x, 0, 0);
        x.set(0, 0, 1);
        covers(x, 1, 1);
        x.set(0, 0, 2);
        covers(x, 2, 3);
        x.set(0, 0, 3);
        covers(x, NONE, NONE);
    }

    /** "at each CLOCK": one CLOCK alone that is not covered is enough. */
    private static void coverOfEachClock() {
        for (int clock = 0; clock < 24; clock++) {
            NeverHalted x = walkers(2);
            x.set(0, 0, 1);
            String all = "walker 0 from " + (clock + 1) % 24 + " for 23;";
            Due.told(x, 3, all, 1);
            covers(x, NONE, NONE);
            Due.told(x, 3, all + "walker 1 from " + clock + " for 1;", 2);
            covers(x, 2, 3);
            Due.told(x, 3, all + "walker 0 from " + clock + " for 1;", 2);
            covers(x, 2, 3);
        }
    }

    /** "LEAST unlike WALKERS". */
    private static void coverOfUnlikeWalkers() {
        NeverHalted x = walkers(2);
        x.set(0, 0, 2);
        Due.told(x, 3, "walker 0 from 0 for 24;walker 0 from 0 for 24;", 2);
        covers(x, NONE, NONE);
        Due.told(x, 3, "walker 0 from 0 for 24;walker 0 from 0 for 24;walker 1 from 0 for 24;", 3);
        covers(x, 2, 5);
        Due.told(x, 3, "walker 0 from 0 for 24;walker 1 from 0 for 12;walker 0 from 12 for 12;walker 1 from 12 for 12;", 4);
        covers(x, 3, 1 + 2 + 8);
    }

    /** "the fewest lines ..: how many, the set (of several the least)". */
    private static void coverTheFewestThenTheLeast() {
        NeverHalted x = walkers(3);
        x.set(0, 0, 1);
        Due.told(x, 3, "walker 0 from 0 for 12;walker 0 from 12 for 12;walker 1 from 0 for 24;", 3);
        covers(x, 1, 4);
        Due.told(x, 3, "walker 0 from 0 for 12;walker 1 from 0 for 12;walker 2 from 12 for 12;walker 0 from 12 for 12;", 4);
        covers(x, 2, 1 + 4);
        Due.told(x, 3, "walker 2 from 12 for 11;walker 0 from 0 for 12;walker 1 from 0 for 12;walker 0 from 12 for 12;", 4);
        covers(x, 2, 2 + 8);
        Due.told(x, 3, "walker 0 from 0 for 24;".repeat(16), 16);
        covers(x, 1, 1);
        Due.told(x, 3, "walker 0 from 0 for 23;".repeat(15) + "walker 0 from 5 for 24;", 16);
        covers(x, 1, 1 << 15);
    }

    private static void coverOfSixteenLines() {
        NeverHalted x = walkers(1);
        x.set(0, 0, 1);
        StringBuilder b = new StringBuilder();
        for (int i = 0; i < 16; i++) {
            int from = i < 8 ? i : 8 + 2 * (i - 8);
            b.append("walker 0from ").append(from).append("for ").append(i < 8 ? 1 : 2).append(';');
        }
        Due.told(x, 3, b.toString(), 16);
        covers(x, 16, 65535);
        Due.told(x, 3, b.toString().replace("from 7for 1;", "from 7for 24;"), 16);
        covers(x, 1, 1 << 7);
    }

    private static void coverOfTen() {
        NeverHalted x = goers(10);
        for (int least = 0; least <= 10; least++) {
            x.set(0, 0, least);
            covers(x, least, (1 << least) - 1);
        }
        x = goers(9);
        x.set(0, 0, 10);
        covers(x, NONE, NONE);
    }

    // ---- WATCHES ----

    private static void watches(NeverHalted x, int sum, int... taken) {
        Due.is("the sum", x.watches(0), sum);
        for (int w = 0; w < taken.length; w++) {
            Due.is("WALKER " + w + " takes", x.watches(10 + w), taken[w]);
        }
        Due.is("behind the last", x.watches(10 + taken.length), NONE);
    }

    private static void watchesOfNone() {
        NeverHalted x = new NeverHalted();
        watches(x, 0);
        x.set(0, 0, 1);
        watches(x, NONE);
        x = goers(2);
        x.set(0, 0, 1);
        Due.told(x, 0, "stay;", 1);
        watches(x, 240, 5, 6);
        x = walkers(3);
        watches(x, 0, 0, 0, 0);
        Due.told(x, 1, "tire 0;", 1);
        watches(x, 0, 0, 0, 0);
    }

    /** "each WATCH has LEAST at least": two WALKERS for each one of LEAST, and never one of 0, 2 and one of 1, 3. */
    private static void watchesThatAreEnough() {
        for (int many = 0; many <= 10; many++) {
            NeverHalted x = walkers(many);
            for (int least = 0; least <= 10; least++) {
                x.set(0, 0, least);
                Due.is(many + " WALKERS for " + least, x.watches(0), 2 * least > many ? NONE : 240 * least);
            }
        }
        NeverHalted x = walkers(1);
        x.set(0, 0, 1);
        watches(x, NONE, NONE);
    }

    /** "of several ways the first (WALKER by WALKER, the lesser)". */
    private static void watchesTheFirstWay() {
        NeverHalted x = walkers(2);
        x.set(0, 0, 1);
        watches(x, 240, 5, 6);
        x = walkers(3);
        x.set(0, 0, 1);
        watches(x, 240, 0, 5, 6);
        x = walkers(4);
        x.set(0, 0, 2);
        watches(x, 480, 5, 5, 6, 6);
        x = walkers(5);
        x.set(0, 0, 2);
        watches(x, 480, 0, 5, 5, 6, 6);
        x = walkers(2);
        x.set(0, 0, 1);
        Due.told(x, 1, "tire 0;", 1);
        watches(x, 0, 5, 6);
        x = walkers(4);
        x.set(0, 0, 1);
        x.set(5, 0, 1);
        Due.told(x, 1, "tire 1 when lame=1 and clock=18;tire 9;", 2);
        watches(x, 6 * 28, 4, 0, 2, 5);
        Due.told(x, 1, "tire 1 when lame=1 and clock=12;tire 9;", 2);
        watches(x, 6 * 28, 3, 0, 1, 6);
        Due.told(x, 1, "tire 1 when lame=1 and clock=6;tire 9;", 2);
        watches(x, 6 * 28, 2, 0, 4, 5);
        Due.told(x, 1, "tire 1 when lame=1 and clock=0;tire 9;", 2);
        watches(x, 6 * 28, 1, 0, 3, 6);
    }

    /** "six times tire (asked with CLOCK 6 w, all else as now)". */
    private static void watchesAskTire() {
        NeverHalted x = walkers(2);
        x.set(0, 0, 1);
        x.hours(29);
        x.set(1, 0, 3);
        Due.told(x, 1, "tire clock+day*2+food;", 1);
        watches(x, 6 * (0 + 6 + 12 + 18 + 4 * 5), 5, 6);
        Due.told(x, 1, "tire 7 when clock=5;tire 2 when clock=0 or clock=6 or clock=12 or clock=18;tire 99;", 3);
        watches(x, 6 * 8, 5, 6);
        x.set(4, 0, 50);
        Due.told(x, 1, "tire feet when clock<6 or clock=12;tire 60-feet;", 2);
        watches(x, 6 * (0 + 10 + 0 + 10), 6, 5);
        x.set(4, 0, 0);
        x.set(4, 1, 50);
        watches(x, 6 * (0 + 10 + 0 + 10), 5, 6);
    }

    /** "the least sum": of unlike WALKERS those who tire least, wherever they stand. */
    private static void watchesOfUnlikeWalkers() {
        int[][] feet = {{4, 3, 2, 1}, {1, 2, 3, 4}, {2, 9, 1, 9}, {9, 1, 9, 2}};
        int[][] due = {{0, 0, 5, 6}, {5, 6, 0, 0}, {5, 0, 6, 0}, {0, 5, 0, 6}};
        for (int i = 0; i < feet.length; i++) {
            NeverHalted x = walkers(4);
            x.set(0, 0, 1);
            Due.told(x, 1, "tire feet;", 1);
            for (int w = 0; w < 4; w++) {
                x.set(4, w, feet[i][w]);
            }
            watches(x, 6 * 2 * 3, due[i]);
        }
        NeverHalted x = walkers(5);
        int[] five = {5, 1, 4, 2, 3};
        for (int w = 0; w < 5; w++) {
            x.set(4, w, five[w]);
        }
        x.set(0, 0, 2);
        Due.told(x, 1, "tire feet;", 1);
        watches(x, 6 * 2 * 10, 0, 5, 5, 6, 6);
        Due.told(x, 1, "tire feet when clock=0 or clock=18;tire 9-feet;", 2);
        watches(x, 6 * (3 * 9 + 4 + 1), 2, 4, 5, 5, 6);
    }

    private static void watchesOfTheMost() {
        NeverHalted x = walkers(10);
        x.set(0, 0, 5);
        Due.told(x, 1, "tire 9999;", 1);
        watches(x, 20 * 6 * 99, 5, 5, 5, 5, 5, 6, 6, 6, 6, 6);
        x.set(0, 0, 4);
        watches(x, 16 * 6 * 99, 0, 0, 5, 5, 5, 5, 6, 6, 6, 6);
        x.set(5, 9, 1);
        x.set(5, 0, 1);
        x.set(0, 0, 5);
        Due.told(x, 1, "tire 0 when lame=1 and clock=6;tire 99;", 2);
        watches(x, 18 * 6 * 99, 6, 5, 5, 5, 5, 5, 6, 6, 6, 6);
    }

    // ---- TOUR ----

    private static void tour(NeverHalted x, int n, int hours, int... way) {
        Due.is("hours of " + n, x.tour(n, 0), hours);
        for (int i = 0; i < n; i++) {
            Due.is("way of " + n + " at " + i, x.tour(n, 10 + i), hours == NONE ? NONE : way[i]);
        }
        Due.is("behind the way of " + n, x.tour(n, 10 + n), NONE);
    }

    private static void tourThereAndBack() {
        NeverHalted x = new NeverHalted();
        tour(x, 2, NONE);
        x.road(0, 1, 99);
        tour(x, 2, 198, 0, 1);
        x.road(1, 0, 1);
        tour(x, 2, 2, 0, 1);
        x.road(0, 1, 0);
        tour(x, 2, NONE);
    }

    /** "each once, and back": a road that lacks, also the last one, is enough for none. */
    private static void tourEachOnce() {
        for (int n = 3; n <= 8; n++) {
            NeverHalted x = new NeverHalted();
            for (int p = 0; p < n; p++) {
                x.road(p, (p + 1) % n, p + 1);
            }
            int[] way = {0, 1, 2, 3, 4, 5, 6, 7};
            tour(x, n, n * (n + 1) / 2, way);
            for (int p = 0; p < n; p++) {
                x.road(p, (p + 1) % n, 0);
                tour(x, n, NONE);
                x.road(p, (p + 1) % n, p + 1);
            }
        }
        NeverHalted x = new NeverHalted();
        x.road(0, 1, 1);
        x.road(0, 2, 1);
        x.road(0, 3, 1);
        tour(x, 4, NONE);
        x.road(1, 2, 99);
        x.road(2, 3, 99);
        tour(x, 4, 200, 0, 1, 2, 3);
        x.road(1, 7, 1);
        x.road(7, 3, 1);
        tour(x, 4, 200, 0, 1, 2, 3);
    }

    /** "the first way (PARISH by PARISH, the lesser)". */
    private static void tourTheFirstWay() {
        NeverHalted x = new NeverHalted();
        for (int a = 0; a < 8; a++) {
            for (int b = 0; b < a; b++) {
                x.road(a, b, 7);
            }
        }
        tour(x, 8, 56, 0, 1, 2, 3, 4, 5, 6, 7);
        x.road(0, 1, 8);
        tour(x, 8, 56, 0, 2, 1, 3, 4, 5, 6, 7);
        x.road(0, 1, 6);
        tour(x, 8, 55, 0, 1, 2, 3, 4, 5, 6, 7);
        x.road(0, 1, 7);
        x.road(7, 1, 6);
        tour(x, 8, 55, 0, 1, 7, 2, 3, 4, 5, 6);
        tour(x, 7, 49, 0, 1, 2, 3, 4, 5, 6);
    }

    private static void tourOfTheMost() {
        NeverHalted x = new NeverHalted();
        for (int a = 0; a < 8; a++) {
            for (int b = 0; b < a; b++) {
                x.road(a, b, 99);
            }
        }
        tour(x, 8, 792, 0, 1, 2, 3, 4, 5, 6, 7);
        int[] way = {0, 7, 6, 5, 4, 3, 2, 1};
        for (int i = 0; i < 8; i++) {
            x.road(way[i], way[(i + 1) % 8], i == 7 ? 2 : 1);
        }
        tour(x, 8, 9, 0, 1, 2, 3, 4, 5, 6, 7);
    }

    // ---- MEETS ----

    /** "the first hour t from now (0 too) in which both are there". */
    private static void meetsNow() {
        NeverHalted x = goers(1);
        Due.told(x, 2, "stone 0 for 4 food 0;stone 1 for 6 food 0;", 2);
        Due.is("both now", x.meets(0, 5, 0), 0);
        Due.is("it is here, the other one is not", x.meets(0, 3, 1), 10);
        Due.is("the other one is here, it is not", x.meets(1, 3, 0), 21);
        x.hours(7);
        Due.is("both now", x.meets(7, 9, 0), 0);
        Due.is("it has just gone", x.meets(6, 1, 0), 9);
        Due.is("it comes next", x.meets(8, 1, 0), 1);
        Due.is("it comes round", x.meets(0, 1, 0), 3);
    }

    /** "c hours behind STONE 0", through all of THE ROUND from each place. */
    private static void meetsAllOfTheRound() {
        NeverHalted x = goers(1);
        Due.told(x, 2, "stone 0 for 1 food 0;stone 1 for 3 food 0;stone 2 for 2 food 0;", 3);
        for (int at = 0; at < 6; at++) {
            for (int c = 0; c < 6; c++) {
                Due.is(c + " from " + at, x.meets(c, 1, 0), (c - at + 6) % 6);
            }
            Due.is("beyond THE ROUND", x.meets(6, 1, 0), NONE);
            x.hours(1);
        }
    }

    /** "none if never". */
    private static void meetsByRemainders() {
        NeverHalted x = goers(1);
        Due.told(x, 2, "stone 0 for 6 food 0;", 1);
        for (int d = 0; d < 4; d++) {
            Due.is("6 and 4, 1 and " + d, x.meets(1, 4, d), d == 1 ? 1 : d == 3 ? 7 : NONE);
        }
        for (int d = 0; d < 6; d++) {
            Due.is("6 and 6, 2 and " + d, x.meets(2, 6, d), d == 2 ? 2 : NONE);
        }
        for (int d = 0; d < 5; d++) {
            int t = x.meets(3, 5, d);
            Due.is("6 and 5, 3 and " + d, t % 6 * 10 + t % 5, 30 + d);
            Due.yes("within 30", t < 30);
        }
        Due.is("6 and 999, never", x.meets(0, 999, 1), NONE);
        Due.is("6 and 999", x.meets(0, 999, 3), 1002);
    }

    private static void meetsTheLastHour() {
        NeverHalted x = goers(1);
        Due.told(x, 2, "stone 0 for 24 food 0;".repeat(8), 8);
        Due.is("192 and 997", x.meets(191, 997, 996), 192 * 997 - 1);
        Due.is("192 and 999", x.meets(191, 999, 998), 64 * 999 - 1);
        Due.is("192 and 999, now", x.meets(0, 999, 0), 0);
        x.hours(1);
        Due.is("192 and 997, one later", x.meets(0, 997, 996), 192 * 997 - 1);
    }

    /** "if THE SAINT goes on each hour": no flood, and nobody who stays, is asked. */
    private static void meetsAndSeesThoughNobodyGoes() {
        NeverHalted x = new NeverHalted();
        Due.told(x, 2, "stone 0 for 4 river 4 food 0;stone 1 for 6 river 6 food 0;", 2);
        x.set(2, 0, 1000);
        Due.is("both", x.meets(7, 5, 2), 7);
        sees(x, 1, 9, 1, 4);
        Due.is("no DRAW", x.look(11), 0);
    }

    // ---- SEES ----

    private static void sees(NeverHalted x, int s, int k, int stone, int hours) {
        Due.is("STONE seen from " + s + " by " + k, x.sees(s, k, 0), stone);
        Due.is("in hours from " + s + " by " + k, x.sees(s, k, 1), hours);
    }

    /** "he is there when it comes, or sooner". */
    private static void seesWhenOrSooner() {
        NeverHalted x = goers(1);
        Due.told(x, 2, "stone 0 for 6 food 0;stone 1 for 2 food 0;stone 2 for 9 food 0;", 3);
        sees(x, 2, 1, 1, 6);
        sees(x, 2, 2, 1, 6);
        sees(x, 2, 3, 1, 6);
        sees(x, 2, 4, 2, 8);
        x.hours(1);
        sees(x, 2, 2, 1, 5);
        sees(x, 2, 3, 2, 7);
        x.hours(3);
        sees(x, 2, 1, 1, 2);
        sees(x, 2, 2, 2, 4);
        x.hours(1);
        sees(x, 2, 1, 2, 3);
    }

    /** "or it is his own". */
    private static void seesHisOwn() {
        NeverHalted x = goers(1);
        Due.told(x, 2, "stone 0 for 1 food 0;".repeat(8), 8);
        for (int s = 0; s < 8; s++) {
            sees(x, s, 9, s, s);
        }
        Due.told(x, 2, "stone 0 for 24 food 0;", 1);
        sees(x, 0, 1, 0, 0);
        sees(x, 0, 9, 0, 0);
        x.hours(23);
        sees(x, 0, 9, 0, 1);
        x.hours(1);
        sees(x, 0, 9, 0, 0);
        x.hours(1);
        sees(x, 0, 9, 0, 23);
    }

    /** "either way". */
    private static void seesEitherWay() {
        NeverHalted x = goers(1);
        Due.told(x, 2, "stone 0 for 5 food 0;stone 1 for 5 food 0;stone 2 for 5 food 0;stone 3 for 2 food 0;", 4);
        x.hours(1);
        sees(x, 0, 1, 2, 9);
        sees(x, 0, 2, 3, 14);
        sees(x, 0, 7, 3, 14);
        sees(x, 0, 8, 0, 16);
        sees(x, 1, 1, 1, 4);
        sees(x, 3, 1, 2, 9);
        Due.told(x, 2, "stone 0 for 4 food 0;stone 1 for 4 food 0;", 2);
        x.hours(1);
        sees(x, 0, 1, 0, 7);
        Due.told(x, 2, "stone 0 for 5 food 0;stone 1 for 4 food 0;", 2);
        x.hours(1);
        sees(x, 0, 1, 1, 4);
        sees(x, 0, 2, 0, 8);
    }

    /** "it comes there when it has gone all hours to it; at LEG itself, with GONE 0, now". */
    private static void seesLegItself() {
        NeverHalted x = goers(1);
        Due.told(x, 2, "stone 0 for 3 food 0;stone 1 for 3 food 0;", 2);
        sees(x, 0, 9, 0, 0);
        sees(x, 1, 1, 1, 3);
        x.hours(1);
        sees(x, 0, 9, 0, 5);
        x.hours(2);
        sees(x, 1, 9, 1, 0);
        sees(x, 0, 1, 0, 3);
        x.hours(1);
        sees(x, 1, 9, 1, 5);
        sees(x, 1, 1, 1, 5);
    }

    // ---- FITS ----

    private static void fits(NeverHalted x, int k, int v, int ways, int first) {
        Due.is("ways of " + k + " to " + v, x.fits(0, k, v, 0), ways);
        Due.is("the first of " + k + " to " + v, x.fits(0, k, v, 1), first);
    }

    private static void fitsAtTheBounds() {
        NeverHalted x = walkers(1);
        fits(x, 1, 0, 1, 0);
        fits(x, 1, 10, 1, 1);
        fits(x, 1, 9, 0, NONE);
        fits(x, 10, 100, 1, 1023);
        fits(x, 10, 999, 0, NONE);
        x.set(4, 0, 999);
        fits(x, 1, 999, 1, 1);
        fits(x, 1, 994, 1, 0);
        fits(x, 2, 999, 2, 2);
        fits(x, 10, 949, 1, 0);
        x.set(4, 0, 989);
        fits(x, 1, 999, 1, 1);
        fits(x, 2, 999, 1, 3);
        x.set(4, 0, 4);
        fits(x, 1, 0, 1, 0);
        fits(x, 2, 10, 1, 2);
    }

    private static void fitsAllOrNone() {
        NeverHalted x = walkers(1);
        x.set(4, 0, 7);
        Due.told(x, 1, "tire 0;ease 0;", 2);
        for (int k = 1; k <= 10; k++) {
            fits(x, k, 7, 1 << k, 0);
            fits(x, k, 8, 0, NONE);
        }
    }

    /** "the first (HOUR 0 not walked ahead of walked, then the next), HOUR i counts 2 to the i". */
    private static void fitsTheFirst() {
        NeverHalted x = walkers(1);
        x.set(4, 0, 500);
        Due.told(x, 1, "tire 10;ease 10;", 2);
        fits(x, 4, 500, 6, 4 + 8);
        fits(x, 4, 480, 4, 8);
        fits(x, 4, 520, 4, 2 + 4 + 8);
        fits(x, 10, 500, 252, 31 << 5);
        fits(x, 10, 400, 1, 0);
        fits(x, 10, 420, 10, 512);
        Due.told(x, 1, "tire 3 when clock=9;tire 1;ease 0;", 3);
        x.set(4, 0, 0);
        fits(x, 10, 3, 1 + 84, 512);
        Due.told(x, 1, "tire 3 when clock=0;tire 1;ease 0;", 3);
        fits(x, 10, 3, 1 + 84, 128 + 256 + 512);
    }

    /** "with CLOCK, DAY, FEET, ROW as they go". */
    private static void fitsAsTheyGo() {
        NeverHalted x = walkers(1);
        x.hours(20);
        Due.told(x, 1, "tire clock;ease 0;", 2);
        fits(x, 6, 22 + 23, 4, 4 + 8);
        fits(x, 6, 20 + 21 + 22 + 23 + 1, 2, 1 + 2 + 4 + 8 + 32);
        Due.told(x, 1, "tire 50 when day=1;tire 1;ease 0;", 3);
        fits(x, 5, 52, 6, 4 + 8 + 16);
        x.set(4, 0, 8);
        Due.told(x, 1, "tire feet;ease feet/2;", 2);
        fits(x, 2, 8, 2, 2);
        fits(x, 3, 8, 0, NONE);
        fits(x, 3, 64, 1, 7);
        fits(x, 3, 1, 1, 0);
        x.set(4, 0, 0);
        Due.told(x, 1, "tire row+1;ease 0;", 2);
        fits(x, 4, 10, 1, 15);
        fits(x, 4, 4, 2, 1 + 4 + 8);
        fits(x, 4, 2, 3, 2 + 8);
        Due.told(x, 1, "tire 0;ease row;", 2);
        x.set(4, 0, 20);
        fits(x, 4, 17, 1, 7);
        fits(x, 4, 18, 4, 2 + 4);
    }

    /** ROW goes on from what it is, 999 at most, and is 0 when he rests. */
    private static void fitsAtRowsEnd() {
        NeverHalted x = goers(1);
        for (int i = 0; i < 10; i++) {
            x.hours(99);
        }
        x.hours(8);
        Due.is("ROW", x.of(0, 3), 998);
        x.set(4, 0, 0);
        Due.told(x, 1, "tire row-990;ease 0;", 2);
        fits(x, 1, 8, 1, 1);
        fits(x, 2, 17, 1, 3);
        fits(x, 3, 26, 1, 7);
        fits(x, 3, 8, 2, 1);
        fits(x, 3, 0, 4, 0);
    }

    /** "all else as now; SHIFTS, GOES not asked". */
    private static void fitsAllElseAsNow() {
        NeverHalted x = goers(1);
        x.set(1, 0, 40);
        Due.told(x, 2, "stone 0 for 1 food 9;stone 5 for 1 river 1 food 9;", 2);
        Due.told(x, 1, "tire food+leg*10+own*20+river;ease 0;eat 9;", 3);
        fits(x, 3, 180, 1, 7);
        Due.told(x, 0, "stay;", 1);
        fits(x, 3, 180, 1, 7);
        Due.told(x, 3, "", 0);
        fits(x, 3, 180, 1, 7);
        x.set(5, 0, 1);
        Due.told(x, 1, "tire lame;", 1);
        fits(x, 3, 3, 1, 7);
    }

    // ---- CROSSED ----

    private static void crossedAtTheBounds() {
        NeverHalted x = new NeverHalted();
        for (int r = 1; r <= 12; r++) {
            for (int t = 0; t <= 30; t += t < 13 ? 1 : 17) {
                Due.is("without FLOOD " + r + " in " + t, x.crossed(r, t), t < r ? 0 : 1000000);
            }
        }
        x.set(2, 0, 1000);
        Due.is("FLOOD of a thousand", x.crossed(1, 30), 0);
        x.set(2, 0, 999);
        Due.is("one of a thousand", x.crossed(1, 1), 1000);
        Due.is("one of a thousand twice", x.crossed(2, 2), 1);
        Due.is("one of a thousand three times", x.crossed(3, 3), 0);
        x.set(2, 0, 1);
        Due.is("all but one of a thousand", x.crossed(1, 1), 999000);
        Due.is("what is at r stays", x.crossed(1, 2), 999999);
        Due.is("and the rest is kept", x.crossed(1, 30), 999999);
    }

    /** "by 1000 downwards to j + 1, and keeps the rest". */
    private static void crossedDownwards() {
        NeverHalted x = new NeverHalted();
        x.set(2, 0, 333);
        Due.is("two of two", x.crossed(2, 2), 444889);
        Due.is("two of three", x.crossed(2, 3), 444889 + (222111 + 222111) * 667 / 1000);
        Due.is("one of three", x.crossed(1, 3), 889111 + 110889 * 667 / 1000);
        x.set(2, 0, 500);
        int[] at = {1000000, 0, 0, 0};
        for (int t = 1; t <= 30; t++) {
            int[] on = {at[0] / 2, at[1] / 2, at[2] / 2};
            at = new int[] {at[0] - on[0], at[1] - on[1] + on[0], at[2] - on[2] + on[1], at[3] + on[2]};
            Due.is("three by halves in " + t, x.crossed(3, t), at[3]);
        }
    }

    // ---- LINE ----

    private static void line(NeverHalted x, int... due) {
        for (int i = 0; i < due.length; i++) {
            Due.is("line(" + i + ")", x.line(i), due[i]);
        }
        Due.is("behind the last", x.line(due.length), NONE);
        Due.is("ahead of the first", x.line(-1), NONE);
    }

    /** "the first half of them (one more, if odd), then the LAME ones by number, then the other half". */
    private static void lineByHalves() {
        line(new NeverHalted());
        line(walkers(4));
        line(goers(1), 0);
        line(goers(2), 0, 1);
        line(goers(3), 0, 1, 2);
        NeverHalted x = goers(10);
        line(x, 0, 1, 2, 3, 4, 5, 6, 7, 8, 9);
        x.set(5, 0, 1);
        line(x, 1, 2, 3, 4, 5, 0, 6, 7, 8, 9);
        x.set(5, 9, 1);
        line(x, 1, 2, 3, 4, 0, 9, 5, 6, 7, 8);
        int[] lame = {2, 3, 4, 5, 6, 7};
        for (int w : lame) {
            x.set(5, w, 1);
        }
        line(x, 1, 0, 2, 3, 4, 5, 6, 7, 9, 8);
        x.set(5, 8, 1);
        line(x, 1, 0, 2, 3, 4, 5, 6, 7, 8, 9);
        x.set(5, 1, 1);
        line(x, 0, 1, 2, 3, 4, 5, 6, 7, 8, 9);
        Due.told(x, 0, "stay when clock=0;", 1);
        line(x);
    }

    /** "by FEET (the fewest first, then number)", and of the LAME ones by number alone. */
    private static void lineByFeetThenNumber() {
        NeverHalted x = goers(6);
        int[] feet = {9, 999, 0, 9, 1, 0};
        for (int w = 0; w < 6; w++) {
            x.set(4, w, feet[w]);
        }
        line(x, 2, 5, 4, 0, 3, 1);
        x.set(5, 2, 1);
        x.set(5, 1, 1);
        line(x, 5, 4, 1, 2, 0, 3);
        x.set(5, 4, 1);
        line(x, 5, 0, 1, 2, 4, 3);
    }

    // ---- OWES ----

    private static void owes(NeverHalted x, int sum, int... due) {
        int all = 0;
        for (int p = 0; p < 8; p++) {
            int its = x.owes(p, sum);
            Due.is("PARISH " + p + " of " + sum, its, due[p]);
            all += its;
        }
        Due.is("all of " + sum, all, sum);
    }

    private static NeverHalted ofParishes(int... parishes) {
        NeverHalted x = new NeverHalted();
        for (int p : parishes) {
            x.walker(p, 0);
        }
        return x;
    }

    /** "downwards; what is left over, one each to those with the greatest remainder". */
    private static void owesDownwardsAndLeftOver() {
        NeverHalted x = ofParishes(7, 7, 7, 2, 2, 4);
        owes(x, 0, 0, 0, 0, 0, 0, 0, 0, 0);
        owes(x, 1, 0, 0, 0, 0, 0, 0, 0, 1);
        owes(x, 2, 0, 0, 1, 0, 0, 0, 0, 1);
        owes(x, 5, 0, 0, 2, 0, 1, 0, 0, 2);
        owes(x, 6, 0, 0, 2, 0, 1, 0, 0, 3);
        owes(x, 7, 0, 0, 2, 0, 1, 0, 0, 4);
        owes(x, 8, 0, 0, 3, 0, 1, 0, 0, 4);
        owes(x, 99999, 0, 0, 33333, 0, 16667, 0, 0, 49999);
        owes(ofParishes(3), 99999, 0, 0, 0, 99999, 0, 0, 0, 0);
    }

    /** "of several the least". */
    private static void owesOfSeveralTheLeast() {
        NeverHalted x = ofParishes(6, 5, 4, 3);
        owes(x, 1, 0, 0, 0, 1, 0, 0, 0, 0);
        owes(x, 2, 0, 0, 0, 1, 1, 0, 0, 0);
        owes(x, 3, 0, 0, 0, 1, 1, 1, 0, 0);
        owes(x, 4, 0, 0, 0, 1, 1, 1, 1, 0);
        owes(x, 99999, 0, 0, 0, 25000, 25000, 25000, 24999, 0);
        owes(ofParishes(0, 1, 2, 3, 4, 5, 6, 7), 15, 2, 2, 2, 2, 2, 2, 2, 1);
        owes(ofParishes(0, 1, 2, 3, 4, 5, 6, 7, 7, 7), 99, 10, 10, 10, 10, 10, 10, 10, 29);
        owes(ofParishes(0, 1, 2, 3, 4, 5, 6, 7, 7, 7), 92, 10, 9, 9, 9, 9, 9, 9, 28);
    }

    /** "(Without WALKERS 0.)". */
    private static void owesWithoutWalkers() {
        NeverHalted x = new NeverHalted();
        for (int p = 0; p < 8; p++) {
            Due.is("nobody at all", x.owes(p, 99999), 0);
            Due.is("nobody at all", x.owes(p, 0), 0);
        }
        x.walker(1, 0);
        Due.is("a PARISH without", x.owes(0, 99999), 0);
        Due.is("a PARISH with all", x.owes(1, 99999), 99999);
        x.move(0, 0);
        Due.is("moved", x.owes(0, 99999), 99999);
    }

    // ---- ASKS ----

    /** "of those without a SHIFT at a CLOCK". */
    private static void asksWithoutAShift() {
        NeverHalted x = new NeverHalted();
        Due.is("nobody", x.asks(0), NONE);
        x = walkers(2);
        Due.is("no SHIFTS", x.asks(0), 0);
        Due.is("no SHIFTS", x.asks(23), 0);
        Due.told(x, 3, "walker 0 from 23 for 2;walker 1 from 0 for 1;", 2);
        Due.is("at 22", x.asks(22), 0);
        Due.is("at 23", x.asks(23), 1);
        Due.is("at 0", x.asks(0), NONE);
        Due.is("at 1", x.asks(1), 0);
        Due.told(x, 0, "stay;", 1);
        Due.is("who stays has a SHIFT all the same", x.asks(0), NONE);
    }

    /** "the one who would tire least then (asked with that CLOCK, all else as now); of several the least". */
    private static void asksOfSeveralTheLeast() {
        NeverHalted x = walkers(10);
        Due.is("all alike", x.asks(7), 0);
        Due.told(x, 1, "tire 99;", 1);
        Due.is("all alike", x.asks(7), 0);
        Due.told(x, 1, "tire 0;", 1);
        Due.is("all alike", x.asks(7), 0);
        x.set(4, 9, 1);
        x.set(4, 8, 1);
        Due.told(x, 1, "tire 20-feet;", 1);
        Due.is("of two the lesser", x.asks(7), 8);
        Due.told(x, 1, "tire 20-feet when clock=7;tire feet;", 2);
        x.hours(30);
        x.set(4, 5, 1);
        Due.is("with that CLOCK", x.asks(7), 5);
        Due.is("with that CLOCK", x.asks(6), 0);
        Due.told(x, 1, "tire 3 when day=1 and feet=1;", 1);
        Due.is("the DAY as now", x.asks(0), 5);
    }

    // ---- UNDO ----

    /** "6 are kept". */
    private static void undoKeepsSix() {
        NeverHalted x = new NeverHalted();
        for (int i = 1; i <= 9; i++) {
            x.carry(1);
            Due.is("kept of " + i, x.look(16), Math.min(6, i));
        }
        for (int i = 6; i > 0; i--) {
            Due.is("left", x.look(16), i);
            Due.yes("undo", x.undo());
            Due.is("FOOD", x.look(8), i + 2);
        }
        Due.no("no seventh", x.undo());
        Due.is("FOOD", x.look(8), 3);
        x.carry(5);
        Due.yes("undone, done, undone", x.undo());
        Due.is("FOOD", x.look(8), 3);
        x.hours(7);
        Due.is("each HOUR is one", x.look(16), 6);
        for (int i = 0; i < 6; i++) {
            x.undo();
        }
        Due.is("HOUR", x.look(1), 1);
    }

    /** "the latest HOUR, MOVE, CARRYING not undone yet goes back". */
    private static void undoOfEach() {
        NeverHalted x = goers(2);
        x.hours(2);
        x.move(0, 5);
        x.carry(50);
        x.hours(1);
        x.move(0, 6);
        Due.is("six", x.look(16), 6);
        x.undo();
        Due.is("a MOVE", x.of(0, 0), 5);
        x.undo();
        Due.is("an HOUR", x.look(1), 2);
        Due.is("its FOOD", x.look(8), 50);
        x.undo();
        Due.is("a CARRYING", x.look(8), 0);
        x.undo();
        Due.is("a MOVE", x.of(0, 0), 0);
        Due.is("two are left", x.look(16), 2);
        x.carry(9);
        Due.is("three are left", x.look(16), 3);
        x.undo();
        x.undo();
        x.undo();
        Due.is("HOUR", x.look(1), 0);
        Due.no("nothing", x.undo());
    }

    /** All of an HOUR goes back: "(STATE, THE BOOK, too)". */
    private static void undoGoesBackInAll() {
        NeverHalted x = goers(2);
        x.set(5, 1, 1);
        x.walker(3, 0);
        x.set(4, 2, 44);
        x.set(0, 0, 4);
        x.set(1, 0, 30);
        x.set(3, 0, 1000);
        Due.told(x, 2, "stone 0 for 1 food 6;", 1);
        x.hours(1);
        int[] before = new int[24];
        for (int what = 0; what < 12; what++) {
            before[what] = x.look(what);
            before[12 + what] = x.of(what / 4, what % 4);
        }
        x.hours(1);
        int[] changed = {1, 4, 6, 7, 8, 10, 11};
        for (int what : changed) {
            Due.no("look(" + what + ") was changed", x.look(what) == before[what]);
        }
        Due.told(x, 0, "stay;", 1);
        x.hours(1);
        Due.is("HALTS", x.look(5), 1);
        Due.is("ROW", x.of(0, 3), 0);
        Due.yes("undo", x.undo());
        Due.is("HALTS", x.look(5), 0);
        Due.yes("undo", x.undo());
        Due.told(x, 0, "", 0);
        for (int what = 0; what < 12; what++) {
            Due.is("look(" + what + ") is back", x.look(what), before[what]);
            Due.is("of(" + what / 4 + ", " + what % 4 + ") is back", x.of(what / 4, what % 4), before[12 + what]);
        }
        Due.is("no line behind", x.book(before[10], 0), NONE);
    }

    /** "whatever else is told .. forgets them". */
    private static void undoIsForgotten() {
        for (int way = 0; way < 12; way++) {
            NeverHalted x = goers(1);
            x.image(true);
            x.hours(3);
            Due.is("three to undo", x.look(16), 3);
            switch (way) {
                case 0: x.state(0); break;
                case 1: x.walker(0, 0); break;
                case 8: Due.told(x, 2, "stone 0 for 1 food 0;", 1); break;
                case 9: Due.told(x, 2, "", 0); break;
                case 10: Due.told(x, 3, "", 0); break;
                case 11: x.image(false); break;
                default: Due.yes("set", x.set(way - 2, 0, 0)); break;
            }
            Due.is("forgotten by " + way, x.look(16), 0);
            Due.no("forgotten by " + way, x.undo());
            Due.is("HOUR", x.look(1), way == 11 ? 0 : 3);
            x.carry(1);
            Due.yes("what comes then is kept", x.undo());
        }
    }

    /** "whatever else is told but LAWS, ROADS (the taking of THE IMAGE does not) forgets them". */
    private static void undoIsNotForgotten() {
        NeverHalted x = goers(1);
        x.hours(6);
        Due.told(x, 0, "go;", 1);
        Due.told(x, 1, "tire 1;", 1);
        x.road(0, 1, 5);
        x.road(0, 1, 0);
        x.image(true);
        x.image(true);
        x.feed(0, 0, 0, 0, 0);
        x.end(3);
        x.end(0);
        x.text(4);
        Due.faulty(x, 2, "stone", 1, 5);
        Due.faulty(x, 3, "walker", 1, 6);
        x.set(0, 0, 11);
        x.walker(8, 0);
        x.hours(0);
        x.carry(0);
        x.move(0, 0);
        Due.is("six to undo", x.look(16), 6);
        Due.yes("undo", x.undo());
        Due.is("HOUR", x.look(1), 5);
        Due.is("the LAW of going stays told", x.look(12), 1);
        Due.is("the LAW of feet stays told", x.of(0, 5), 1);
        Due.is("the image stays taken: HOUR 6", x.image(false) ? x.look(1) : NONE, 6);
        x.hours(1);
        x.road(2, 3, 7);
        x.undo();
        Due.is("ROADS stay told", x.roadOf(2, 3), 7);
    }

    // ---- THE IMAGE ----

    /** "all that is and was told .. as it was when it was taken". */
    private static void imageOfAll() {
        NeverHalted x = goers(2);
        Due.told(x, 0, "stay when feet>500;", 1);
        Due.told(x, 1, "tire 11;", 1);
        Due.told(x, 2, "stone 1 for 2 river 1 food 3;", 1);
        x.road(1, 2, 3);
        x.set(0, 0, 3);
        x.set(1, 0, 77);
        x.set(2, 0, 400);
        x.set(3, 0, 600);
        x.set(5, 1, 1);
        x.state(31);
        x.hours(5);
        x.image(true);
        int[] then = new int[30];
        for (int what = 0; what < 30; what++) {
            then[what] = what == 16 ? 0 : x.look(what);
        }
        int feet = x.of(1, 2);
        int line = x.book(then[10] - 1, 0);
        x.hours(20);
        x.walker(5, 0);
        x.move(1, 7);
        for (int what = 0; what < 6; what++) {
            x.set(what, 1, 0);
        }
        x.road(1, 2, 0);
        x.road(5, 6, 9);
        for (int k = 0; k < 4; k++) {
            Due.told(x, k, "", 0);
        }
        x.state(0);
        Due.yes("gone back", x.image(false));
        for (int what = 0; what < 30; what++) {
            Due.is("look(" + what + ")", x.look(what), then[what]);
        }
        Due.is("FEET", x.of(1, 2), feet);
        Due.is("ROW", x.of(1, 3), 5);
        Due.is("LAME", x.of(1, 1), 1);
        Due.is("PARISH", x.of(1, 0), 1);
        Due.is("SHIFTS", x.of(1, 8), (1 << 24) - 1);
        Due.is("tire", x.of(1, 5), 11);
        Due.is("the STONE", x.stone(0, 2), 1);
        Due.is("the ROAD", x.roadOf(2, 1), 3);
        Due.is("no other ROAD", x.roadOf(5, 6), NONE);
        Due.is("the last line", x.book(then[10] - 1, 0), line);
        Due.is("no third WALKER", x.of(2, 0), NONE - 1);
    }

    /** "(nothing then)" and "gone back to it may be more than once". */
    private static void imageMoreThanOnce() {
        NeverHalted x = goers(1);
        x.hours(2);
        x.image(true);
        for (int i = 0; i < 4; i++) {
            x.hours(i + 1);
            x.carry(i + 1);
            Due.yes("gone back", x.image(false));
            Due.is("HOUR", x.look(1), 2);
            Due.is("FOOD", x.look(8), 0);
            Due.is("FEET", x.of(0, 2), 20);
            Due.is("nothing to undo", x.look(16), 0);
            Due.no("nothing to undo", x.undo());
        }
        Due.yes("twice on end", x.image(false));
        Due.is("HOUR", x.look(1), 2);
    }

    private static void imageTakenAnew() {
        NeverHalted x = goers(1);
        Due.no("there is none", x.image(false));
        Due.yes("taken of nothing done", x.image(true));
        x.hours(2);
        Due.yes("taken anew", x.image(true));
        Due.is("the taking leaves what can be undone", x.look(16), 2);
        x.hours(2);
        x.image(false);
        Due.is("the newer one", x.look(1), 2);
        x.hours(1);
        x.image(true);
        x.undo();
        x.image(false);
        Due.is("undoing does not reach it", x.look(1), 3);
    }

    /** "but the TAPE, fault()". */
    private static void imageButTheTape() {
        NeverHalted x = new NeverHalted();
        Due.feed(x, "go;");
        x.image(true);
        x.end(0);
        Due.faulty(x, 0, "stay", 1, 4);
        Due.feed(x, "stay;go;");
        x.image(false);
        Due.is("fault() stays", x.fault(0), 1);
        Due.is("its place stays", x.fault(1), 4);
        Due.no("the TAPE is eight long", x.end(9));
        Due.is("the TAPE stays", x.text(0), 2);
        x.image(false);
        Due.is("THE IMAGE has no TAPE", x.feed(0, 0, 0, 0, 0), 20);
        Due.is("fault() stays", x.fault(0), 0);
    }

    /** THE BOOK goes back, too, though other lines were written since. */
    private static void imageOfTheBook() {
        NeverHalted x = walkers(1);
        x.hours(3);
        x.image(true);
        x.undo();
        x.undo();
        x.set(0, 0, 2);
        Due.told(x, 3, "walker 0 from 0 for 24;", 1);
        Due.told(x, 2, "stone 0 for 1 food 0;", 1);
        x.hours(3);
        Due.is("seven lines", x.look(10), 7);
        Due.is("a STONE", x.book(2, 1), 0);
        Due.is("one goes", x.book(1, 2), 1);
        x.image(false);
        Due.is("three lines", x.look(10), 3);
        for (int i = 0; i < 3; i++) {
            Due.is("HOUR", x.book(i, 0), i);
            Due.is("nobody", x.book(i, 1), 1);
            Due.is("no number", x.book(i, 2), 0);
        }
    }
}
