/**
 * Promise by promise the calls that can't be: the first one beyond each edge answers as the document says and
 * changes nothing, the last one within it is taken; and all that is only asked changes nothing either.
 */
public final class RefusedTest {
    private static final int NONE = NeverHalted.NONE;
    private static final int LEAST_INT = Integer.MIN_VALUE;
    private static final int MOST_INT = Integer.MAX_VALUE;

    private interface Call {
        int on(NeverHalted x);
    }

    public static void main(String[] args) {
        promise3Walker();
        promise3TheEleventhWalker();
        promise4Set();
        promise5Road();
        promise6Feed();
        promise7End();
        promise8TextAfterAFault();
        promise8NoSuchText();
        promise9FaultOfAnotherWhat();
        promise10Hours();
        promise10HoursAtTheEnd();
        promise11Move();
        promise12Carry();
        promise13Of();
        promise14Stone();
        promise15RoadOf();
        promise16Book();
        promise17Goes();
        promise18Cover();
        promise19Watches();
        promise20Tour();
        promise21Meets();
        promise22Sees();
        promise23Fits();
        promise24Crossed();
        promise25Line();
        promise26Owes();
        promise27Asks();
        promise28UndoOfNothing();
        promise29NoImage();
        promise30Look();
        whatIsAskedChangesNothing();
        Due.close();
    }

    /** Three walkers on a round of six hours, an image, six things to undo, a fault and "go;" on a tape of twenty. */
    private static NeverHalted busy() {
        NeverHalted x = new NeverHalted();
        x.walker(0, 0);
        x.walker(1, 1);
        x.walker(2, 0);
        Due.tell(x, 0, "stay when feet>80;");
        Due.tell(x, 1, "tire 7+lame;ease 3;");
        Due.tell(x, 2, "stone 0 for 2 food 5;stone 1 for 3 river 2 food 40;stone 2 for 1 food 7;");
        Due.tell(x, 3, "walker 0 from 0 for 24;walker 1 from 0 for 24;walker 2 from 6 for 3;");
        x.road(0, 1, 4);
        x.road(1, 2, 5);
        x.road(0, 2, 6);
        x.road(3, 2, 7);
        x.set(0, 0, 2);
        x.set(1, 0, 9990);
        x.set(2, 0, 300);
        x.set(3, 0, 200);
        x.state(77);
        x.hours(3);
        x.image(true);
        x.road(0, 1, 9);
        x.hours(2);
        x.carry(3);
        x.move(1, 0);
        Due.tell(x, 0, "go when");
        Due.feed(x, "go;                 ");
        return x;
    }

    private static void refused(String what, int answer, Call call) {
        NeverHalted x = busy();
        Due.is(what, call.on(x), answer);
        Picture.same(what, x, busy());
    }

    private static void taken(String what, int answer, Call call) {
        Due.is(what, call.on(busy()), answer);
    }

    private static int bit(boolean answer) {
        return answer ? 1 : 0;
    }

    private static void promise3Walker() {
        int[][] cannot = {{-1, 0}, {8, 0}, {0, -1}, {0, 2}, {LEAST_INT, 0}, {MOST_INT, 0}, {0, LEAST_INT}, {0, MOST_INT}};
        for (int[] c : cannot) {
            refused("walker(" + c[0] + ", " + c[1] + ")", NONE, x -> x.walker(c[0], c[1]));
        }
        int[][] can = {{0, 0}, {7, 0}, {0, 1}, {7, 1}};
        for (int[] c : can) {
            taken("walker(" + c[0] + ", " + c[1] + ")", 3, x -> x.walker(c[0], c[1]));
        }
    }

    private static NeverHalted tenWalkers() {
        NeverHalted x = new NeverHalted();
        for (int i = 0; i < 9; i++) {
            Due.is("walker " + i, x.walker(i % 8, 0), i);
        }
        Due.is("the tenth", x.walker(5, 1), 9);
        x.carry(1);
        return x;
    }

    private static void promise3TheEleventhWalker() {
        NeverHalted x = tenWalkers();
        Due.is("the eleventh", x.walker(0, 0), NONE);
        Due.is("the eleventh", x.walker(7, 1), NONE);
        Due.is("ten of them", x.look(0), 10);
        Due.is("the tenth is as it was", x.of(9, 0), 5);
        Due.is("the tenth is as it was", x.of(9, 1), 1);
        Due.is("there is no eleventh", x.of(10, 0), NONE - 1);
        Due.is("nothing is forgotten", x.look(16), 1);
    }

    private static void promise4Set() {
        int[] most = {10, 9999, 1000, 1000, 999, 1};
        for (int i = 0; i < most.length; i++) {
            int what = i;
            int[] cannot = {-1, most[i] + 1, LEAST_INT, MOST_INT};
            for (int v : cannot) {
                refused("set(" + what + ", 1, " + v + ")", 0, x -> bit(x.set(what, 1, v)));
            }
            taken("set(" + what + ") to the least", 1, x -> bit(x.set(what, 1, 0)));
            taken("set(" + what + ") to the most", 1, x -> bit(x.set(what, 1, most[what])));
        }
        int[] whos = {-1, 3, LEAST_INT, MOST_INT};
        for (int who : whos) {
            for (int i = 0; i < 4; i++) {
                int what = i;
                taken("set(" + what + ") does not ask who " + who, 1, x -> bit(x.set(what, who, 1)));
            }
            refused("FEET of " + who, 0, x -> bit(x.set(4, who, 1)));
            refused("LAME of " + who, 0, x -> bit(x.set(5, who, 1)));
        }
        taken("FEET of the first", 1, x -> bit(x.set(4, 0, 1)));
        taken("FEET of the last", 1, x -> bit(x.set(4, 2, 1)));
        taken("LAME of the first", 1, x -> bit(x.set(5, 0, 1)));
        taken("LAME of the last", 1, x -> bit(x.set(5, 2, 1)));
        int[] whats = {-1, 6, LEAST_INT, MOST_INT};
        for (int what : whats) {
            refused("set(" + what + ", 0, 0)", 0, x -> bit(x.set(what, 0, 0)));
            refused("set(" + what + ", 0, 1)", 0, x -> bit(x.set(what, 0, 1)));
        }
    }

    private static void promise5Road() {
        int[][] cannot = {{-1, 0, 5}, {0, -1, 5}, {8, 0, 5}, {0, 8, 5}, {0, 1, -1}, {0, 1, 100}, {0, 0, 5}, {7, 7, 5}, {3, 3, 0},
            {LEAST_INT, 1, 5}, {1, MOST_INT, 5}, {0, 1, LEAST_INT}, {0, 1, MOST_INT}, {MOST_INT, MOST_INT, 1}};
        for (int[] c : cannot) {
            refused("road(" + c[0] + ", " + c[1] + ", " + c[2] + ")", 0, x -> bit(x.road(c[0], c[1], c[2])));
        }
        int[][] can = {{0, 7, 1}, {7, 0, 99}, {0, 1, 0}, {6, 7, 0}, {1, 0, 9}};
        for (int[] c : can) {
            NeverHalted x = busy();
            Due.yes("road(" + c[0] + ", " + c[1] + ", " + c[2] + ")", x.road(c[0], c[1], c[2]));
            Due.is("there", x.roadOf(c[0], c[1]), c[2] == 0 ? NONE : c[2]);
            Due.is("and back", x.roadOf(c[1], c[0]), c[2] == 0 ? NONE : c[2]);
        }
    }

    private static int feedBlanks(NeverHalted x) {
        return x.feed(0x20202020, 0x20202020, 0x20202020, 0x20202020, 0x20202020);
    }

    /** "NONE, and nothing comes, if there would be more than 400". */
    private static void promise6Feed() {
        NeverHalted x = new NeverHalted();
        for (int i = 1; i <= 19; i++) {
            Due.is("feed", feedBlanks(x), 20 * i);
        }
        Due.is("the 400th byte", feedBlanks(x), 400);
        Due.is("more than 400", feedBlanks(x), NONE);
        Due.no("nothing came", x.end(401));
        Due.yes("399 and one less", x.end(381));
        Due.is("401 would be more", feedBlanks(x), NONE);
        Due.no("nothing came", x.end(382));
        Due.yes("one less", x.end(380));
        Due.is("400 again", feedBlanks(x), 400);
        x.end(390);
        Due.is("refused", x.feed('x' << 24, 0, 0, 0, 0), NONE);
        Due.is("no byte of it came", x.text(0), 0);
        Due.is("empty then", feedBlanks(x), 20);
        NeverHalted y = busy();
        for (int i = 2; i <= 20; i++) {
            feedBlanks(y);
        }
        Due.is("a full tape", feedBlanks(y), NONE);
        Due.is("forgets nothing", y.look(16), 6);
        Due.is("and the fault is as it was", y.fault(0), 1);
    }

    /** "false, changing nothing, if it has not so many, or n is below 0". */
    private static void promise7End() {
        int[] cannot = {21, -1, LEAST_INT, MOST_INT, 400, 401};
        for (int n : cannot) {
            refused("end(" + n + ")", 0, x -> bit(x.end(n)));
        }
        refused("end(20) of twenty", 1, x -> bit(x.end(20)));
        NeverHalted x = busy();
        Due.yes("end(19)", x.end(19));
        Due.no("end(20) of nineteen", x.end(20));
        Due.yes("end(0)", x.end(0));
        Due.yes("end(0) of none", x.end(0));
        Due.no("end(1) of none", x.end(1));
        Due.is("feed behind none", feedBlanks(x), 20);
        NeverHalted y = new NeverHalted();
        Due.feed(y, "go;stay;");
        y.end(3);
        Due.is("its first three alone", y.text(0), 1);
        Due.feed(y, "go;stay;");
        y.end(7);
        Due.is("its first seven alone", y.text(0), NONE);
        Due.is("which end there", y.fault(1), 7);
    }

    /** "NONE: .. a FAULT (it stays as it was)", for each text and each fault, and the tape is empty then. */
    private static void promise8TextAfterAFault() {
        String[][] faulty = {
            {"go;stay when 1;", "go;go when 1/0=1;", "go;".repeat(17)},
            {"tire;", "tire 1;tire 1/0;", "eat 0;".repeat(17)},
            {"stone 0 for 1;", "stone 0 for 1 food 1;stone 0 for 25 food 1;", "stone 0for 1food 0;".repeat(9)},
            {"walker 0", "walker 0 from 0 for 1;walker 3 from 0 for 1;", "walker 0from 0for 1;".repeat(17)},
        };
        for (int k = 0; k < faulty.length; k++) {
            for (int f = 0; f < 3; f++) {
                NeverHalted x = busy();
                NeverHalted y = busy();
                x.end(0);
                Due.is("text " + k + " with fault " + (f + 1), Due.tell(x, k, faulty[k][f]), NONE);
                Due.is("the fault", x.fault(0), f + 1);
                Due.is("the tape is empty", feedBlanks(x), 20);
                sameFault(x, y);
                Picture.same("text " + k + " with fault " + (f + 1), x, y);
            }
        }
    }

    /** Both have the same latest fault and the same tape then, so that all else is compared. */
    private static void sameFault(NeverHalted x, NeverHalted y) {
        x.end(0);
        y.end(0);
        Due.tell(x, 0, ")");
        Due.tell(y, 0, ")");
    }

    /** "NONE: no such one (fault() tells 0)". */
    private static void promise8NoSuchText() {
        int[] cannot = {-1, 4, LEAST_INT, MOST_INT};
        for (int k : cannot) {
            NeverHalted x = busy();
            NeverHalted y = busy();
            Due.is("a fault is there", x.fault(0), 1);
            Due.is("text(" + k + ")", x.text(k), NONE);
            Due.is("fault() tells 0", x.fault(0), 0);
            Due.is("and no place", x.fault(1), NONE);
            Due.is("the tape is empty", feedBlanks(x), 20);
            sameFault(x, y);
            Picture.same("text(" + k + ")", x, y);
        }
        NeverHalted x = busy();
        Due.feed(x, "when");
        Due.is("a faulty tape is not read for no text", x.text(4), NONE);
        Due.is("fault() tells 0", x.fault(0), 0);
    }

    private static void promise9FaultOfAnotherWhat() {
        int[] cannot = {-1, 2, LEAST_INT, MOST_INT};
        for (int what : cannot) {
            refused("fault(" + what + ")", NONE, x -> x.fault(what));
        }
        refused("the fault", 1, x -> x.fault(0));
        refused("its place", 7, x -> x.fault(1));
    }

    /** "NONE, and nothing is done, if one can't be". */
    private static void promise10Hours() {
        int[] cannot = {0, -1, 100, LEAST_INT, MOST_INT};
        for (int n : cannot) {
            refused("hours(" + n + ")", NONE, x -> x.hours(n));
        }
        NeverHalted x = busy();
        x.hours(1);
        Due.is("one hour", x.look(1), 6);
        x.hours(99);
        Due.is("99 hours", x.look(1), 105);
    }

    private static NeverHalted atHour(int hour) {
        NeverHalted x = new NeverHalted();
        while (x.look(1) < hour) {
            x.hours(Math.min(99, hour - x.look(1)));
        }
        return x;
    }

    /** "NONE, and nothing is done, if .. HOUR would be above 9999". */
    private static void promise10HoursAtTheEnd() {
        int[] froms = {9901, 9950, 9997, 9998, 9999};
        for (int from : froms) {
            NeverHalted x = atHour(from);
            Due.is("HOUR would be 10000", x.hours(10000 - from), NONE);
            Due.is("nothing is done", x.look(1), from);
            Due.is("nothing is done", x.look(5), from);
            Due.is("nothing is kept", x.look(16), 6);
            Due.is("HOUR may be 9999", from == 9999 ? 0 : x.hours(9999 - from), 0);
            Due.is("HOUR is 9999", x.look(1), 9999);
            Due.is("and no more", x.hours(1), NONE);
        }
        NeverHalted x = atHour(9900);
        Due.is("99 hours to 9999", x.hours(99), 0);
        Due.is("HOUR is 9999", x.look(1), 9999);
    }

    private static void promise11Move() {
        int[][] cannot = {{0, 0}, {1, 0}, {2, 2}, {-1, 3}, {3, 3}, {0, -1}, {0, 8}, {LEAST_INT, 0}, {MOST_INT, 0},
            {0, LEAST_INT}, {0, MOST_INT}};
        for (int[] c : cannot) {
            refused("move(" + c[0] + ", " + c[1] + ")", 0, x -> bit(x.move(c[0], c[1])));
        }
        int[][] can = {{0, 7}, {1, 1}, {2, 0}, {2, 7}};
        for (int[] c : can) {
            NeverHalted x = busy();
            Due.yes("move(" + c[0] + ", " + c[1] + ")", x.move(c[0], c[1]));
            Due.is("his PARISH", x.of(c[0], 0), c[1]);
            Due.no("he is of it", x.move(c[0], c[1]));
        }
    }

    private static void promise12Carry() {
        int[] cannot = {0, -1, 1000, LEAST_INT, MOST_INT};
        for (int n : cannot) {
            refused("carry(" + n + ")", NONE, x -> x.carry(n));
            NeverHalted empty = new NeverHalted();
            Due.is("carry(" + n + ") to none", empty.carry(n), NONE);
            Due.is("nothing to undo", empty.look(16), 0);
        }
        NeverHalted x = new NeverHalted();
        Due.is("one", x.carry(1), 1);
        Due.is("999", x.carry(999), 1000);
        x.set(1, 0, 9000);
        Due.is("9999 may be", x.carry(999), 9999);
        Due.is("10000 may not", x.carry(1), NONE);
        Due.is("FOOD is as it was", x.look(8), 9999);
        x.set(1, 0, 9001);
        Due.is("10000 may not", x.carry(999), NONE);
        Due.is("FOOD is as it was", x.look(8), 9001);
        Due.is("nothing to undo", x.look(16), 0);
    }

    private static void promise13Of() {
        int[][] cannot = {{-1, 0}, {3, 0}, {LEAST_INT, 0}, {MOST_INT, 0}, {0, -1}, {0, 9}, {0, LEAST_INT}, {0, MOST_INT}, {3, 9}};
        for (int[] c : cannot) {
            refused("of(" + c[0] + ", " + c[1] + ")", NONE - 1, x -> x.of(c[0], c[1]));
        }
        refused("the first one's PARISH", 0, x -> x.of(0, 0));
        refused("the last one's CLOCKS", 7 << 6, x -> x.of(2, 8));
    }

    private static void promise14Stone() {
        int[][] cannot = {{-1, 0}, {3, 0}, {LEAST_INT, 0}, {MOST_INT, 0}, {0, -1}, {0, 4}, {0, LEAST_INT}, {0, MOST_INT}};
        for (int[] c : cannot) {
            refused("stone(" + c[0] + ", " + c[1] + ")", NONE, x -> x.stone(c[0], c[1]));
        }
        refused("the first one's PARISH", 0, x -> x.stone(0, 0));
        refused("the last one's food", 7, x -> x.stone(2, 3));
    }

    private static void promise15RoadOf() {
        int[][] cannot = {{-1, 0}, {0, -1}, {8, 0}, {0, 8}, {0, 0}, {7, 7}, {6, 7}, {LEAST_INT, 0}, {0, MOST_INT}};
        for (int[] c : cannot) {
            refused("roadOf(" + c[0] + ", " + c[1] + ")", NONE, x -> x.roadOf(c[0], c[1]));
        }
        refused("the ROAD", 9, x -> x.roadOf(1, 0));
    }

    private static void promise16Book() {
        int lines = busy().look(10);
        Due.yes("there are lines", lines > 0);
        int[][] cannot = {{-1, 0}, {lines, 0}, {LEAST_INT, 0}, {MOST_INT, 0}, {0, -1}, {0, 3}, {0, LEAST_INT}, {0, MOST_INT}};
        for (int[] c : cannot) {
            refused("book(" + c[0] + ", " + c[1] + ")", NONE, x -> x.book(c[0], c[1]));
        }
        refused("the first line's HOUR", 1, x -> x.book(0, 0));
        Due.no("the last line", busy().book(lines - 1, 2) == NONE);
        Due.is("an empty book", new NeverHalted().book(0, 0), NONE);
    }

    private static void promise17Goes() {
        int[][] cannot = {{0, 0}, {-1, 0}, {100, 0}, {LEAST_INT, 0}, {MOST_INT, 0}, {1, -1}, {1, 5}, {1, LEAST_INT}, {1, MOST_INT}};
        for (int[] c : cannot) {
            refused("goes(" + c[0] + ", " + c[1] + ")", NONE, x -> x.goes(c[0], c[1]));
        }
        refused("one HOUR", 0, x -> x.goes(1, 0));
        Due.no("99 HOURS", busy().goes(99, 4) == NONE);
    }

    private static void promise18Cover() {
        int[] cannot = {-1, 2, LEAST_INT, MOST_INT};
        for (int what : cannot) {
            refused("cover(" + what + ")", NONE, x -> x.cover(what));
        }
        refused("how many", 2, x -> x.cover(0));
        refused("the set", 3, x -> x.cover(1));
    }

    private static void promise19Watches() {
        int[] cannot = {-1, 1, 9, 13, 20, LEAST_INT, LEAST_INT + 9, LEAST_INT + 10, MOST_INT};
        NeverHalted x = busy();
        x.set(0, 0, 1);
        for (int what : cannot) {
            Due.is("watches(" + what + ")", x.watches(what), NONE);
            refused("watches(" + what + ")", NONE, y -> y.watches(what));
        }
        Due.is("the sum", x.watches(0), 6 * 4 * 7);
        Due.is("the first one's", x.watches(10), 5);
        Due.is("the last one's", x.watches(12), 6);
    }

    private static void promise20Tour() {
        int[][] cannot = {{1, 0}, {0, 0}, {-1, 0}, {9, 0}, {LEAST_INT, 0}, {MOST_INT, 0}, {1, 10}, {9, 10}, {3, 1}, {3, 9}, {3, -1},
            {3, 13}, {2, 12}, {3, LEAST_INT}, {3, LEAST_INT + 10}, {3, MOST_INT}};
        for (int[] c : cannot) {
            refused("tour(" + c[0] + ", " + c[1] + ")", NONE, x -> x.tour(c[0], c[1]));
        }
        refused("tour(2, 0)", 18, x -> x.tour(2, 0));
        refused("tour(3, 0)", 20, x -> x.tour(3, 0));
        refused("tour(3, 12)", 2, x -> x.tour(3, 12));
        refused("there is none", NONE, x -> x.tour(4, 0));
        refused("there is none", NONE, x -> x.tour(4, 10));
    }

    private static void promise21Meets() {
        int[][] cannot = {{-1, 5, 0}, {6, 5, 0}, {0, 0, 0}, {0, -1, 0}, {0, 1000, 0}, {0, 5, -1}, {0, 5, 5}, {0, 1, 1},
            {LEAST_INT, 5, 0}, {MOST_INT, 5, 0}, {0, LEAST_INT, 0}, {0, MOST_INT, 0}, {0, 5, LEAST_INT}, {0, 5, MOST_INT}};
        for (int[] c : cannot) {
            refused("meets(" + c[0] + ", " + c[1] + ", " + c[2] + ")", NONE, x -> x.meets(c[0], c[1], c[2]));
        }
        NeverHalted x = new NeverHalted();
        Due.is("no ROUND", x.meets(0, 1, 0), NONE);
        Due.tell(x, 2, "stone 0 for 6 food 0;");
        Due.is("the first crossroads", x.meets(0, 1, 0), 0);
        Due.is("the last crossroads", x.meets(5, 1, 0), 5);
        Due.is("the longest other round, its first hour", x.meets(0, 999, 0), 0);
        Due.is("the longest other round, its last hour", x.meets(2, 999, 998), 998);
    }

    private static void promise22Sees() {
        int[][] cannot = {{-1, 1, 0}, {3, 1, 0}, {0, 0, 0}, {0, 10, 0}, {0, -1, 0}, {0, 1, -1}, {0, 1, 2}, {LEAST_INT, 1, 0},
            {MOST_INT, 1, 0}, {0, LEAST_INT, 0}, {0, MOST_INT, 0}, {0, 1, LEAST_INT}, {0, 1, MOST_INT}};
        for (int[] c : cannot) {
            refused("sees(" + c[0] + ", " + c[1] + ", " + c[2] + ")", NONE, x -> x.sees(c[0], c[1], c[2]));
        }
        NeverHalted x = new NeverHalted();
        Due.is("no ROUND", x.sees(0, 1, 0), NONE);
        Due.tell(x, 2, "stone 0 for 6 food 0;stone 3 for 2 food 0;");
        Due.is("the first STONE", x.sees(0, 1, 0), 0);
        Due.is("the last STONE, the slowest", x.sees(1, 9, 0), 1);
        Due.is("the last STONE, the slowest", x.sees(1, 9, 1), 6);
    }

    private static void promise23Fits() {
        int[][] cannot = {{-1, 1, 0, 0}, {3, 1, 0, 0}, {0, 0, 0, 0}, {0, 11, 0, 0}, {0, 1, -1, 0}, {0, 1, 1000, 0}, {0, 1, 0, -1},
            {0, 1, 0, 2}, {LEAST_INT, 1, 0, 0}, {MOST_INT, 1, 0, 0}, {0, LEAST_INT, 0, 0}, {0, MOST_INT, 0, 0},
            {0, 1, LEAST_INT, 0}, {0, 1, MOST_INT, 0}, {0, 1, 0, LEAST_INT}, {0, 1, 0, MOST_INT}};
        for (int[] c : cannot) {
            refused("fits(" + c[0] + ", " + c[1] + ", " + c[2] + ", " + c[3] + ")", NONE, x -> x.fits(c[0], c[1], c[2], c[3]));
        }
        refused("a way that there is", 1, x -> x.fits(0, 1, 42, 0));
        refused("a way that there is", 1, x -> x.fits(0, 1, 42, 1));
        int[] whats = {-1, 2, LEAST_INT, MOST_INT};
        for (int what : whats) {
            refused("another what of a way that there is", NONE, x -> x.fits(0, 1, 42, what));
        }
        NeverHalted x = busy();
        x.set(4, 2, 3);
        x.set(4, 0, 992);
        Due.is("FEET 0 of the last one in one HOUR", x.fits(2, 1, 0, 0), 1);
        Due.is("FEET 999 of the first one in one HOUR", x.fits(0, 1, 999, 0), 1);
        Due.is("all of ten HOURS", x.fits(2, 10, 73, 1), 1023);
        Due.is("no way is no NONE", x.fits(2, 1, 9, 0), 0);
        Due.is("but the first of none is", x.fits(2, 1, 9, 1), NONE);
    }

    private static void promise24Crossed() {
        int[][] cannot = {{0, 1}, {-1, 1}, {13, 1}, {1, -1}, {1, 31}, {LEAST_INT, 1}, {MOST_INT, 1}, {1, LEAST_INT}, {1, MOST_INT}};
        for (int[] c : cannot) {
            refused("crossed(" + c[0] + ", " + c[1] + ")", NONE, x -> x.crossed(c[0], c[1]));
        }
        refused("in no time", 0, x -> x.crossed(1, 0));
        refused("in one hour", 700000, x -> x.crossed(1, 1));
        Due.yes("the widest in the longest time", busy().crossed(12, 30) > 900000);
    }

    private static void promise25Line() {
        int[] cannot = {-1, 2, LEAST_INT, MOST_INT};
        for (int i : cannot) {
            refused("line(" + i + ")", NONE, x -> x.line(i));
        }
        refused("the first", 0, x -> x.line(0));
        refused("the last", 1, x -> x.line(1));
        Due.is("nobody", new NeverHalted().line(0), NONE);
    }

    private static void promise26Owes() {
        int[][] cannot = {{-1, 5}, {8, 5}, {0, -1}, {0, 100000}, {LEAST_INT, 5}, {MOST_INT, 5}, {0, LEAST_INT}, {0, MOST_INT}};
        for (int[] c : cannot) {
            refused("owes(" + c[0] + ", " + c[1] + ")", NONE, x -> x.owes(c[0], c[1]));
            Due.is("owes() without WALKERS", new NeverHalted().owes(c[0], c[1]), NONE);
        }
        refused("of nothing", 0, x -> x.owes(0, 0));
        refused("of the most", 66666, x -> x.owes(0, 99999));
        refused("of the most", 33333, x -> x.owes(2, 99999));
        refused("of the last PARISH", 0, x -> x.owes(7, 99999));
    }

    private static void promise27Asks() {
        int[] cannot = {-1, 24, LEAST_INT, MOST_INT};
        for (int clock : cannot) {
            refused("asks(" + clock + ")", NONE, x -> x.asks(clock));
        }
        refused("asks(0)", 2, x -> x.asks(0));
        refused("asks(23)", 2, x -> x.asks(23));
        refused("none is without a SHIFT", NONE, x -> x.asks(7));
    }

    private static void promise28UndoOfNothing() {
        NeverHalted x = busy();
        NeverHalted y = busy();
        for (int i = 0; i < 6; i++) {
            Due.yes("undo", x.undo());
            Due.yes("undo", y.undo());
        }
        Due.no("there is nothing", x.undo());
        Due.no("nor is there then", x.undo());
        Picture.same("undo of nothing", x, y);
    }

    private static NeverHalted withoutImage() {
        NeverHalted x = new NeverHalted();
        x.walker(3, 1);
        x.hours(4);
        x.carry(7);
        return x;
    }

    private static void promise29NoImage() {
        NeverHalted x = withoutImage();
        Due.no("there is none", x.image(false));
        Due.no("nor is there then", x.image(false));
        Picture.same("no image", x, withoutImage());
    }

    private static void promise30Look() {
        int[] cannot = {-1, 18, 19, 23, LEAST_INT, MOST_INT};
        for (int what : cannot) {
            refused("look(" + what + ")", NONE, x -> x.look(what));
        }
    }

    /** "IN THOUGHT (nothing of it stays ..)". */
    private static void whatIsAskedChangesNothing() {
        NeverHalted x = busy();
        x.goes(99, 0);
        x.goes(1, 4);
        x.cover(0);
        x.cover(1);
        x.watches(0);
        x.watches(12);
        x.tour(8, 0);
        x.tour(3, 11);
        x.meets(3, 7, 2);
        x.sees(1, 2, 1);
        x.fits(1, 10, 60, 0);
        x.fits(2, 3, 8, 1);
        x.crossed(12, 30);
        x.line(0);
        x.owes(0, 777);
        x.asks(3);
        x.of(0, 4);
        x.look(9);
        x.fault(0);
        Picture.same("all that is asked", x, busy());
    }
}
