/** Promises 10 to 12, 16, 17, 28 to 30: hours, moves, carrying, the book, hours in thought, undo, the image. */
public final class DoingTest {
    private static final int NONE = NeverHalted.NONE;
    private static final String ROUND = "stone 0 for 2 food 5;stone 1 for 3 river 2 food 40;stone 2 for 1 food 7;";

    public static void main(String[] args) {
        promise10HoursThatCannotBe();
        promise10WhoGo();
        promise10FeetAndRow();
        promise10AskedAhead();
        promise10Food();
        promise10Round();
        promise10Draws();
        promise11Move();
        promise12Carry();
        promise16Book();
        promise17Goes();
        promise28Undo();
        promise28KeepsSix();
        promise29Image();
        promise29ImageKeepsTheBook();
        promise30Look();
        Due.close();
    }

    /** Two walkers by day and night, a third from 6 to 8. */
    private static NeverHalted threeOnTheRound() {
        NeverHalted x = new NeverHalted();
        x.walker(0, 0);
        x.walker(1, 0);
        x.walker(2, 1);
        Due.told(x, 2, ROUND, 3);
        Due.told(x, 3, "walker 0 from 0 for 24;walker 1 from 0 for 24;walker 2 from 6 for 3;", 3);
        return x;
    }

    private static void promise10HoursThatCannotBe() {
        NeverHalted x = new NeverHalted();
        int[] cannot = {0, -1, 100, Integer.MAX_VALUE, Integer.MIN_VALUE};
        for (int n : cannot) {
            Due.is("hours(" + n + ")", x.hours(n), NONE);
        }
        Due.is("nothing is done", x.look(1), 0);
        for (int i = 0; i < 101; i++) {
            Due.is("hours(99)", x.hours(99), 0);
        }
        Due.is("HOUR would be 10000", x.hours(1), NONE);
        Due.is("HOUR", x.look(1), 9999);
        Due.is("HALTS", x.look(5), 9999);
        Due.yes("undo", x.undo());
        Due.is("two are too many", x.hours(2), NONE);
        Due.is("one may be", x.hours(1), 0);
        Due.is("in thought there is no end", x.goes(99, 0), 0);
    }

    private static void promise10WhoGo() {
        NeverHalted x = threeOnTheRound();
        x.set(0, 0, 3);
        Due.is("0 .. 5 are short, 6 .. 8 not", x.hours(9), 6);
        Due.is("SHORT", x.look(4), 6);
        Due.is("HALTS", x.look(5), 0);
        Due.told(x, 0, "stay when clock=9;", 1);
        Due.is("who go", x.look(9), 0);
        Due.is("short", x.hours(1), 1);
        Due.is("HALTS", x.look(5), 1);
        x.set(0, 0, 0);
        Due.told(x, 0, "stay;", 1);
        Due.is("LEAST 0 is never short", x.hours(1), 0);
        Due.is("but it halts", x.look(5), 2);
        Due.told(x, 3, "walker 0 from 9 for 5;walker 0 from 10 for 5;", 2);
        Due.told(x, 0, "", 0);
        Due.is("two lines of one count once", x.look(9), 1);
    }

    private static void promise10FeetAndRow() {
        NeverHalted x = new NeverHalted();
        x.walker(0, 0);
        x.walker(0, 0);
        x.set(4, 0, 995);
        x.set(4, 1, 7);
        Due.tell(x, 3, "walker 0 from 0 for 2;");
        x.hours(1);
        Due.is("FEET at most", x.of(0, 2), 999);
        Due.is("ROW", x.of(0, 3), 1);
        Due.is("eased", x.of(1, 2), 2);
        x.hours(1);
        Due.is("ROW", x.of(0, 3), 2);
        Due.is("FEET at least", x.of(1, 2), 0);
        x.hours(1);
        Due.is("eased", x.of(0, 2), 994);
        Due.is("ROW ends", x.of(0, 3), 0);
        Due.tell(x, 3, "walker 0 from 0 for 24;");
        for (int i = 0; i < 11; i++) {
            x.hours(99);
        }
        Due.is("ROW at most", x.of(0, 3), 999);
    }

    private static void promise10AskedAhead() {
        NeverHalted x = threeOnTheRound();
        x.set(1, 0, 1);
        Due.told(x, 0, "go when food>0;stay;", 2);
        Due.told(x, 1, "tire food*9+row;eat 1;", 2);
        x.hours(1);
        Due.is("tire of the food ahead", x.of(0, 2), 9);
        Due.is("tire of the food ahead", x.of(1, 2), 9);
        Due.is("both went", x.of(1, 3), 1);
        Due.is("FOOD at least", x.look(8), 0);
        Due.is("nobody then", x.look(9), 0);
    }

    private static void promise10Food() {
        NeverHalted x = threeOnTheRound();
        x.set(1, 0, 9999);
        Due.told(x, 1, "eat 0;", 1);
        x.hours(2);
        Due.is("FOOD at most", x.look(8), 9999);
        x.set(1, 0, 100);
        Due.told(x, 1, "eat 3 when own=1;eat 10;", 2);
        x.hours(1);
        Due.is("eaten of those who go", x.look(8), 87);
    }

    private static void promise10Round() {
        NeverHalted x = threeOnTheRound();
        Due.told(x, 1, "eat 0;", 1);
        int[] leg = {0, 1, 1, 1, 2, 0, 0};
        int[] gone = {1, 0, 1, 2, 0, 0, 1};
        int[] food = {0, 40, 40, 40, 47, 52, 52};
        for (int i = 0; i < leg.length; i++) {
            x.hours(1);
            Due.is("LEG", x.look(2), leg[i]);
            Due.is("GONE", x.look(3), gone[i]);
            Due.is("FOOD", x.look(8), food[i]);
            Due.is("ROUNDS", x.look(7), i >= 5 ? 1 : 0);
        }
        Due.told(x, 2, "stone 3 for 1 food 2;", 1);
        Due.is("told anew", x.look(3), 0);
        x.hours(3);
        Due.is("one stone: each hour a round", x.look(7), 4);
        Due.is("its food", x.look(8), 58);
        Due.told(x, 2, "", 0);
        x.hours(1);
        Due.is("no round, no going on", x.look(3), 0);
        Due.told(x, 2, "stone 3 for 2 food 2;", 1);
        Due.told(x, 0, "stay;", 1);
        x.hours(1);
        Due.is("nobody, no going on", x.look(3), 0);
    }

    /** From STATE 0 the first draws of 1000 are 1013904223 >>> 8 and 1196435762 >>> 8: 563 and 577. */
    private static void promise10Draws() {
        int first = (1013904223 >>> 8) % 1000;
        NeverHalted x = threeOnTheRound();
        x.set(3, 0, 1000);
        x.hours(1);
        Due.is("enough: no draw", x.look(11), 0);
        x.set(0, 0, 3);
        x.set(3, 0, first);
        x.hours(1);
        Due.is("a draw", x.look(11), 1013904223);
        Due.is("not below WAR", x.look(6), 0);
        x.undo();
        x.set(3, 0, first + 1);
        x.hours(1);
        Due.is("below WAR", x.look(6), 1);
        x.set(0, 0, 0);
        x.set(2, 0, first);
        x.state(0);
        x.hours(1);
        Due.is("ahead of the river: no draw", x.look(11), 0);
        Due.is("GONE", x.look(3), 1);
        x.hours(1);
        Due.is("on the river: a draw", x.look(11), 1013904223);
        Due.is("not below FLOOD", x.look(3), 2);
        x.state(0);
        x.set(2, 0, first + 1);
        x.hours(1);
        Due.is("marks time", x.look(3), 2);
        x.state(0);
        Due.told(x, 0, "stay;", 1);
        x.hours(1);
        Due.is("nobody is there to mark time", x.look(11), 0);
        x.set(0, 0, 1);
        x.set(3, 0, 0);
        x.hours(1);
        Due.is("WAR 0: no draw", x.look(11), 0);
        x.set(3, 0, 1000);
        x.hours(1);
        Due.is("nobody at all is fewer, too", x.look(6), 2);
        x.state(1196435762);
        Due.told(x, 0, "", 0);
        x.set(2, 0, 0);
        x.hours(1);
        Due.is("FLOOD 0: no draw", x.look(11), 1196435762);
    }

    private static void promise11Move() {
        NeverHalted x = new NeverHalted();
        x.walker(3, 0);
        Due.no("he is of it", x.move(0, 3));
        Due.no("no such walker", x.move(1, 4));
        Due.no("no such walker", x.move(-1, 4));
        Due.no("no such parish", x.move(0, 8));
        Due.no("no such parish", x.move(0, -1));
        Due.is("nothing to undo", x.look(16), 0);
        Due.yes("move", x.move(0, 7));
        Due.is("PARISH", x.of(0, 0), 7);
        Due.is("one to undo", x.look(16), 1);
    }

    private static void promise12Carry() {
        NeverHalted x = new NeverHalted();
        int[] cannot = {0, -1, 1000, Integer.MAX_VALUE};
        for (int n : cannot) {
            Due.is("carry(" + n + ")", x.carry(n), NONE);
        }
        Due.is("carry(1)", x.carry(1), 1);
        Due.is("carry(999)", x.carry(999), 1000);
        x.set(1, 0, 9990);
        Due.is("above 9999", x.carry(10), NONE);
        Due.is("nothing to undo", x.look(16), 0);
        Due.is("9999", x.carry(9), 9999);
    }

    private static void promise16Book() {
        NeverHalted x = threeOnTheRound();
        x.set(0, 0, 3);
        x.set(3, 0, 1000);
        x.set(2, 0, 1000);
        x.hours(4);
        int[][] due = {{0, 2, 2}, {0, 4, 0}, {1, 2, 2}, {1, 4, 0}, {1, 0, 1}, {2, 2, 2}, {2, 4, 0},
            {3, 2, 2}, {3, 4, 0}, {3, 3, 0}};
        Due.is("lines", x.look(10), due.length);
        for (int i = 0; i < due.length; i++) {
            for (int what = 0; what < 3; what++) {
                Due.is("book(" + i + ", " + what + ")", x.book(i, what), due[i][what]);
            }
        }
        Due.is("no such line", x.book(due.length, 0), NONE);
        Due.is("no such line", x.book(-1, 0), NONE);
        Due.is("another what", x.book(0, 3), NONE);
        Due.is("another what", x.book(0, -1), NONE);
        Due.told(x, 0, "stay;", 1);
        x.set(3, 0, 0);
        x.hours(1);
        Due.is("nobody", x.book(10, 1), 1);
        Due.is("its number", x.book(10, 2), 0);
        Due.is("one line", x.look(10), 11);
        x.hours(99);
        x.hours(99);
        Due.is("150 lines, no more then", x.look(10), 150);
        Due.is("the last one", x.book(149, 0), 4 + 139);
        Due.is("behind it", x.book(150, 0), NONE);
    }

    private static void promise17Goes() {
        NeverHalted x = threeOnTheRound();
        x.set(0, 0, 3);
        x.set(3, 0, 1000);
        x.set(2, 0, 1000);
        x.hours(1);
        int state = x.look(11);
        int[] due = {8, 1, 0, 0, 120};
        for (int what = 0; what < due.length; what++) {
            Due.is("goes(11, " + what + ")", x.goes(11, what), due[what]);
        }
        Due.is("no flood, no war", x.goes(4, 2), 2);
        Due.is("none short", goesFrom6(x), NONE);
        Due.is("n below", x.goes(0, 0), NONE);
        Due.is("n above", x.goes(100, 0), NONE);
        Due.is("another what", x.goes(5, 5), NONE);
        Due.is("another what", x.goes(5, -1), NONE);
        Due.is("nothing of it stays: HOUR", x.look(1), 6);
        x.undo();
        Due.is("nothing of it stays: what can be undone", x.look(16), 5);
        Due.no("but hours draw", x.look(11) == state);
        int before = x.look(11);
        int lines = x.look(10);
        x.goes(99, 0);
        Due.is("no draws", x.look(11), before);
        Due.is("no lines", x.look(10), lines);
    }

    /** At HOUR 6 all three go for three hours. */
    private static int goesFrom6(NeverHalted x) {
        x.hours(5);
        return x.goes(3, 1);
    }

    private static void promise28Undo() {
        NeverHalted x = threeOnTheRound();
        x.set(0, 0, 3);
        x.set(3, 0, 600);
        x.set(2, 0, 600);
        x.set(1, 0, 50);
        x.set(4, 2, 8);
        x.hours(3);
        int[] before = seen(x);
        x.hours(1);
        x.move(2, 5);
        x.carry(9);
        Due.told(x, 1, "tire 1;", 1);
        x.road(0, 1, 4);
        Due.yes("undo a carrying", x.undo());
        Due.yes("undo a move", x.undo());
        Due.is("PARISH", x.of(2, 0), 2);
        Due.yes("undo an hour", x.undo());
        int[] after = seen(x);
        for (int i = 0; i < before.length; i++) {
            Due.is("seen " + i, after[i], before[i]);
        }
        Due.is("the law stays told", x.look(13), 1);
        Due.is("the road stays told", x.roadOf(0, 1), 4);
        Due.is("three hours are left", x.look(16), 3);
        Due.yes("undo", x.undo());
        Due.yes("undo", x.undo());
        Due.yes("undo", x.undo());
        Due.no("nothing left", x.undo());
        Due.is("HOUR", x.look(1), 0);
        Due.is("lines", x.look(10), 0);
        Due.is("STATE", x.look(11), 0);
        Due.is("FEET", x.of(2, 2), 8);
        x.hours(2);
        x.feed(0, 0, 0, 0, 0);
        x.end(0);
        x.text(9);
        x.image(true);
        Due.is("tape and image forget nothing", x.look(16), 2);
    }

    private static int[] seen(NeverHalted x) {
        int[] all = new int[12 + 15];
        for (int what = 0; what < 12; what++) {
            all[what] = x.look(what);
        }
        for (int i = 0; i < 12; i++) {
            all[12 + i] = x.of(i / 4, i % 4);
        }
        return all;
    }

    private static void promise28KeepsSix() {
        NeverHalted x = new NeverHalted();
        x.walker(0, 0);
        x.hours(4);
        for (int i = 1; i <= 5; i++) {
            x.carry(i);
        }
        Due.is("six are kept", x.look(16), 6);
        int[] food = {10, 6, 3, 1, 0, 0};
        for (int i = 0; i < 6; i++) {
            Due.yes("undo", x.undo());
            Due.is("FOOD", x.look(8), food[i]);
        }
        Due.is("HOUR", x.look(1), 3);
        Due.no("no seventh", x.undo());
        x.hours(99);
        Due.is("six are kept", x.look(16), 6);
    }

    private static void promise29Image() {
        NeverHalted x = threeOnTheRound();
        Due.no("there is none", x.image(false));
        x.set(0, 0, 3);
        x.set(2, 0, 5);
        x.set(3, 0, 600);
        x.road(1, 2, 8);
        Due.told(x, 0, "stay when feet>50;", 1);
        Due.told(x, 1, "tire 7;ease 2;", 2);
        x.hours(9);
        x.state(12345);
        x.carry(4);
        Due.yes("taken", x.image(true));
        Due.is("the taking forgets nothing", x.look(16), 1);
        int[] then = seen(x);
        for (int turn = 0; turn < 2; turn++) {
            x.hours(9);
            x.walker(7, 1);
            x.set(0, 0, 1);
            x.set(2, 0, 0);
            x.set(3, 0, 0);
            x.set(5, 2, 0);
            x.road(1, 2, 0);
            Due.told(x, 0, "", 0);
            Due.told(x, 1, "tire 1;", 1);
            Due.told(x, 2, "stone 5 for 9 food 0;", 1);
            Due.told(x, 3, "walker 3 from 1 for 1;", 1);
            x.move(1, 6);
            Due.tell(x, 0, "go");
            Due.feed(x, "go;");
            Due.yes("gone back", x.image(false));
            Due.is("nothing can be undone then", x.look(16), 0);
            Due.is("fault() stays", x.fault(0), 1);
            Due.yes("the tape stays", x.end(3));
            x.end(0);
            int[] now = seen(x);
            for (int i = 0; i < then.length; i++) {
                Due.is("seen " + i, now[i], then[i]);
            }
            Due.is("LEAST", x.look(20), 3);
            Due.is("FLOOD", x.look(21), 5);
            Due.is("WAR", x.look(22), 600);
            Due.is("the road", x.roadOf(1, 2), 8);
            Due.is("lines of going", x.look(12), 1);
            Due.is("lines of feet", x.look(13), 2);
            Due.is("stones", x.look(14), 3);
            Due.is("shifts", x.look(15), 3);
            Due.is("tire", x.of(0, 5), 7);
            Due.is("clocks", x.of(2, 8), 7 << 6);
        }
    }

    private static void promise29ImageKeepsTheBook() {
        NeverHalted x = new NeverHalted();
        x.hours(3);
        x.image(true);
        x.undo();
        x.undo();
        x.walker(0, 0);
        Due.told(x, 3, "walker 0 from 0 for 24;", 1);
        x.hours(2);
        Due.is("nothing to write", x.look(10), 1);
        x.set(0, 0, 2);
        x.hours(2);
        Due.is("another book", x.book(1, 0), 3);
        Due.is("another book", x.book(1, 1), 2);
        Due.is("another book", x.book(1, 2), 1);
        x.image(false);
        Due.is("lines", x.look(10), 3);
        for (int i = 0; i < 3; i++) {
            Due.is("HOUR", x.book(i, 0), i);
            Due.is("what", x.book(i, 1), 1);
            Due.is("number", x.book(i, 2), 0);
        }
    }

    private static void promise30Look() {
        NeverHalted x = threeOnTheRound();
        Due.is("hours of the round", x.look(17), 6);
        Due.is("who go", x.look(9), 3);
        int[] none = {-1, 18, 19, 23, Integer.MAX_VALUE, Integer.MIN_VALUE};
        for (int what : none) {
            Due.is("look(" + what + ")", x.look(what), NONE);
        }
        x.state(-77);
        Due.is("STATE as it is", x.look(11), -77);
    }
}
