/** Sections 1 and 3 of the document, sentence by sentence: bounds of what is, the draws, an hour, the book, to move and to carry. */
public final class EdgesOfHoursTest {
    private static final int NONE = NeverHalted.NONE;
    private static final String EAT_NOTHING = "eat 0;";

    public static void main(String[] args) {
        allIsZeroAtFirst();
        aWalkerIsNewAtFirst();
        aDrawWraps();
        aDrawIsWithoutSign();
        clockAndDay();
        hourAtItsEnd();
        whoHasAShift();
        exactlyLeast();
        leastTen();
        leastZero();
        nobody();
        warAtItsEdges();
        warOnlyWithTooFew();
        feetAtMost();
        feetAtLeast();
        rowAtMost();
        foodAtLeast();
        foodOfThoseWhoGo();
        foodAtMost();
        foodIsHeldAheadOfTheStone();
        goingIsAskedAhead();
        amountsAreAskedAhead();
        eachIsAskedOfHimself();
        floodAtItsEdges();
        floodOnlyOnARiver();
        warIsDrawnAheadOfFlood();
        aRiverIsCrossedByHours();
        comesToTheNextStone();
        aRoundOfOneStone();
        nobodyStandsStill();
        noRound();
        theBooksLines();
        theBooksOrder();
        theBookOfLeastZero();
        theBookIsFull();
        theBookIsFullWithinAnHour();
        hoursAnswersWhatWasShort();
        Due.close();
    }

    private static NeverHalted goers(int many) {
        NeverHalted x = new NeverHalted();
        StringBuilder shifts = new StringBuilder();
        for (int i = 0; i < many; i++) {
            x.walker(i % 8, 0);
            shifts.append("walker ").append(i).append(" from 0 for 24;");
        }
        Due.told(x, 3, shifts.toString(), many);
        return x;
    }

    /** "(0 each at first)", "(0 at first)", "(0, 0 at first)", "(none at first ..)". */
    private static void allIsZeroAtFirst() {
        NeverHalted x = new NeverHalted();
        for (int what = 0; what <= 22; what++) {
            if (what != 18 && what != 19) {
                Due.is("look(" + what + ") at first", x.look(what), 0);
            }
        }
        for (int a = 0; a < 8; a++) {
            for (int b = 0; b < 8; b++) {
                Due.is("no ROAD at first", x.roadOf(a, b), NONE);
            }
        }
        Due.is("STATE at first", x.state(5), 0);
    }

    private static void aWalkerIsNewAtFirst() {
        NeverHalted x = new NeverHalted();
        x.image(true);
        x.walker(7, 1);
        x.set(4, 0, 500);
        Due.told(x, 3, "walker 0 from 0 for 24;", 1);
        x.hours(2);
        x.image(false);
        Due.is("he takes the number of one that is no more", x.walker(0, 0), 0);
        int[] due = {0, 0, 0, 0, 0, 10, 5, 1, 0};
        for (int what = 0; what < due.length; what++) {
            Due.is("of(0, " + what + ")", x.of(0, what), due[what]);
        }
    }

    /** LEAST is above all, and each HOUR draws for a war. */
    private static NeverHalted drawing(int state) {
        NeverHalted x = new NeverHalted();
        x.set(0, 0, 1);
        x.set(3, 0, 1);
        x.state(state);
        return x;
    }

    /** "it becomes 1664525 times itself + 1013904223 (ints, which wrap)". */
    private static void aDrawWraps() {
        int[] states = {0, 1, -1, 2, 1000, 1013904223, Integer.MAX_VALUE, Integer.MIN_VALUE, 123456789, -987654321};
        for (int state : states) {
            NeverHalted x = drawing(state);
            x.hours(1);
            Due.is("STATE behind " + state, x.look(11), Draws.next(state));
            x.hours(1);
            Due.is("and then", x.look(11), Draws.next(Draws.next(state)));
            Due.is("as it is", x.state(0), Draws.next(Draws.next(state)));
        }
        Due.is("from 0", Draws.next(0), 1013904223);
        Due.is("from 1013904223", Draws.next(1013904223), 1196435762);
    }

    /** "then it is its highest 24 bits (without sign) modulo m". */
    private static void aDrawIsWithoutSign() {
        for (int value = 0; value < 1000; value += 111) {
            for (int sign = 0; sign < 2; sign++) {
                int state = Draws.stateFor(value, sign == 1);
                NeverHalted x = drawing(state);
                if (value > 0) {
                    x.set(3, 0, value);
                    x.hours(1);
                    Due.is(value + " is not below itself", x.look(6), 0);
                    x.state(state);
                }
                x.set(3, 0, value + 1);
                x.hours(1);
                Due.is(value + " is below the next", x.look(6), 1);
            }
        }
    }

    /** "CLOCK: HOUR modulo 24; DAY: HOUR by 24". */
    private static void clockAndDay() {
        NeverHalted x = goers(1);
        Due.told(x, 1, "tire clock;ease day;", 2);
        int[] hours = {0, 1, 22, 23, 24, 25, 47, 48, 71, 72, 2399, 2400, 9998, 9999};
        for (int hour : hours) {
            while (x.look(1) < hour) {
                x.hours(Math.min(99, hour - x.look(1)));
            }
            Due.is("CLOCK of " + hour, x.of(0, 5), hour % 24);
            Due.is("DAY of " + hour, x.of(0, 6), Math.min(99, hour / 24));
        }
    }

    /** "HOUR 0 .. 9999". */
    private static void hourAtItsEnd() {
        NeverHalted x = new NeverHalted();
        for (int i = 0; i < 101; i++) {
            x.hours(99);
        }
        Due.is("HOUR", x.look(1), 9999);
        Due.is("no more", x.hours(1), NONE);
        Due.is("HOUR", x.look(1), 9999);
        Due.yes("but back", x.undo());
        Due.is("HOUR", x.look(1), 9998);
        Due.is("and on", x.hours(1), 0);
        Due.is("a carrying at the end", x.carry(5), 5);
        Due.is("six to undo", x.look(16), 6);
    }

    /** "Who has a SHIFT at this CLOCK (by one of its lines) and GOES". */
    private static void whoHasAShift() {
        NeverHalted x = new NeverHalted();
        x.walker(0, 0);
        x.walker(0, 1);
        x.walker(0, 0);
        Due.told(x, 3, "walker 0 from 2 for 2;walker 0 from 3 for 2;walker 1 from 0 for 24;walker 1 from 0 for 24;", 4);
        Due.told(x, 0, "stay when lame=1 and clock=3;", 1);
        int[] due = {2, 2, 3, 1, 3, 2};
        for (int clock = 0; clock < due.length; clock++) {
            Due.is("who go at " + clock, x.look(9), due[clock]);
            for (int w = 0; w < 3; w++) {
                Due.is("does " + w + " at " + clock, x.of(w, 4), due[clock] >> w & 1);
            }
            x.hours(1);
        }
        Due.is("his ROW", x.of(1, 3), 2);
        Due.is("two lines at once count once", x.of(1, 2), 45);
    }

    /** "Fewer than LEAST: SHORT is one more". */
    private static void exactlyLeast() {
        NeverHalted x = goers(3);
        for (int least = 0; least <= 10; least++) {
            x.set(0, 0, least);
            int before = x.look(4);
            Due.is("three of " + least, x.hours(1), least > 3 ? 1 : 0);
            Due.is("SHORT", x.look(4) - before, least > 3 ? 1 : 0);
            Due.is("in thought", x.goes(1, 0), least > 3 ? 1 : 0);
        }
        Due.is("HALTS", x.look(5), 0);
    }

    private static void leastTen() {
        NeverHalted x = goers(10);
        x.set(0, 0, 10);
        Due.is("all ten", x.hours(3), 0);
        Due.is("all ten go", x.look(9), 1023);
        x.set(5, 9, 1);
        Due.told(x, 0, "stay when lame=1;", 1);
        Due.is("nine", x.hours(3), 3);
        Due.is("nine are booked", x.book(0, 2), 9);
    }

    private static void leastZero() {
        NeverHalted x = new NeverHalted();
        x.set(3, 0, 1000);
        Due.is("nobody is not fewer than none", x.hours(5), 0);
        Due.is("SHORT", x.look(4), 0);
        Due.is("HALTS", x.look(5), 5);
        Due.is("no WAR without SHORT", x.look(6), 0);
        Due.is("nor a DRAW", x.look(11), 0);
    }

    /** "Nobody: HALTS is one more", with LEAST it is SHORT, too. */
    private static void nobody() {
        NeverHalted x = goers(2);
        x.set(0, 0, 1);
        Due.told(x, 0, "stay when feet>15;", 1);
        Due.is("they go", x.hours(2), 0);
        Due.is("HALTS", x.look(5), 0);
        Due.is("nobody", x.hours(1), 1);
        Due.is("HALTS", x.look(5), 1);
        Due.is("SHORT", x.look(4), 1);
    }

    /** "if WAR is above 0, a DRAW of 1000: below WAR WARS is one more". */
    private static void warAtItsEdges() {
        NeverHalted x = drawing(99);
        x.set(3, 0, 0);
        x.hours(4);
        Due.is("WAR 0: no DRAW", x.look(11), 99);
        Due.is("WAR 0: none", x.look(6), 0);
        x.set(3, 0, 1);
        x.state(Draws.stateFor(0, false));
        x.hours(1);
        Due.is("0 is below 1", x.look(6), 1);
        x.state(Draws.stateFor(1, false));
        x.hours(1);
        Due.is("1 is not", x.look(6), 1);
        x.set(3, 0, 999);
        x.state(Draws.stateFor(998, true));
        x.hours(1);
        Due.is("998 is below 999", x.look(6), 2);
        x.state(Draws.stateFor(999, true));
        x.hours(1);
        Due.is("999 is not", x.look(6), 2);
        x.set(3, 0, 1000);
        x.state(Draws.stateFor(999, true));
        x.hours(1);
        Due.is("but below 1000", x.look(6), 3);
        x.hours(99);
        Due.is("each is", x.look(6), 102);
    }

    private static void warOnlyWithTooFew() {
        NeverHalted x = goers(2);
        x.set(0, 0, 2);
        x.set(3, 0, 1000);
        x.hours(3);
        Due.is("enough: no DRAW", x.look(11), 0);
        Due.is("enough: no WAR", x.look(6), 0);
        x.set(0, 0, 3);
        x.hours(1);
        Due.is("too few: a DRAW", x.look(11), Draws.next(0));
        Due.is("too few: a WAR", x.look(6), 1);
    }

    /** "FEET are tire more (999 at most)". */
    private static void feetAtMost() {
        int[] from = {0, 988, 989, 990, 998, 999};
        for (int feet : from) {
            NeverHalted x = goers(1);
            x.set(4, 0, feet);
            x.hours(1);
            Due.is("10 more than " + feet, x.of(0, 2), feet > 989 ? 999 : feet + 10);
        }
        NeverHalted x = goers(1);
        Due.told(x, 1, "tire 99;", 1);
        x.set(4, 0, 900);
        x.hours(1);
        Due.is("99 more than 900", x.of(0, 2), 999);
        x.hours(1);
        Due.is("999 at most", x.of(0, 2), 999);
    }

    /** "of all others FEET are ease less (0 at least), ROW is 0". */
    private static void feetAtLeast() {
        int[] from = {0, 1, 4, 5, 6, 999};
        for (int feet : from) {
            NeverHalted x = new NeverHalted();
            x.walker(0, 0);
            x.set(4, 0, feet);
            x.hours(1);
            Due.is("5 less than " + feet, x.of(0, 2), feet < 5 ? 0 : feet - 5);
            Due.is("ROW", x.of(0, 3), 0);
        }
        NeverHalted x = goers(1);
        x.hours(2);
        Due.told(x, 0, "stay;", 1);
        x.hours(1);
        Due.is("who has a SHIFT and stays is of the others", x.of(0, 2), 15);
        Due.is("his ROW", x.of(0, 3), 0);
    }

    /** "ROW one more (999 at most)". */
    private static void rowAtMost() {
        NeverHalted x = goers(1);
        for (int i = 0; i < 10; i++) {
            x.hours(99);
        }
        x.hours(8);
        Due.is("ROW", x.of(0, 3), 998);
        x.hours(1);
        Due.is("ROW", x.of(0, 3), 999);
        x.hours(1);
        Due.is("ROW at most", x.of(0, 3), 999);
        x.hours(99);
        Due.is("ROW at most", x.of(0, 3), 999);
        Due.told(x, 0, "stay;", 1);
        x.hours(1);
        Due.is("ROW is 0", x.of(0, 3), 0);
        Due.told(x, 0, "", 0);
        x.hours(1);
        Due.is("ROW is 1", x.of(0, 3), 1);
    }

    /** "FOOD is less by the eat of each who goes (0 at least)". */
    private static void foodAtLeast() {
        int[] from = {0, 1, 13, 14, 15, 9999};
        for (int food : from) {
            NeverHalted x = goers(2);
            Due.told(x, 1, "eat 7;", 1);
            x.set(1, 0, food);
            x.hours(1);
            Due.is("14 less than " + food, x.look(8), food < 14 ? 0 : food - 14);
        }
        NeverHalted x = goers(10);
        Due.told(x, 1, "eat 99;", 1);
        x.set(1, 0, 991);
        x.hours(1);
        Due.is("ten eat the most", x.look(8), 1);
    }

    private static void foodOfThoseWhoGo() {
        NeverHalted x = goers(2);
        x.walker(0, 0);
        x.set(5, 1, 1);
        x.set(1, 0, 100);
        Due.told(x, 0, "stay when lame=1;", 1);
        Due.told(x, 1, "eat 3;", 1);
        x.hours(1);
        Due.is("one alone eats", x.look(8), 97);
    }

    /** "FOOD the food of that more (9999 at most)". */
    private static void foodAtMost() {
        int[] from = {0, 9900, 9901, 9902, 9999};
        for (int food : from) {
            NeverHalted x = goers(1);
            Due.told(x, 1, EAT_NOTHING, 1);
            Due.told(x, 2, "stone 0 for 1 food 1;stone 1 for 1 food 98;", 2);
            x.set(1, 0, food);
            x.hours(1);
            Due.is("the next STONE's 98 more than " + food, x.look(8), food > 9901 ? 9999 : food + 98);
        }
    }

    private static void foodIsHeldAheadOfTheStone() {
        NeverHalted x = goers(1);
        Due.told(x, 1, "eat 50;", 1);
        Due.told(x, 2, "stone 0 for 1 food 20;", 1);
        x.set(1, 0, 30);
        x.hours(1);
        Due.is("eaten to 0, then 20 more", x.look(8), 20);
        x.set(1, 0, 9999);
        x.hours(1);
        Due.is("eaten, then 20 more", x.look(8), 9969);
    }

    /** "(all asked ahead of what follows)". */
    private static void goingIsAskedAhead() {
        NeverHalted x = goers(3);
        x.set(1, 0, 1);
        x.set(0, 0, 3);
        Due.told(x, 0, "stay when food=0;", 1);
        Due.is("all go, though the first eats it up", x.hours(1), 0);
        Due.is("FOOD", x.look(8), 0);
        Due.is("now none", x.hours(1), 1);
        Due.is("HALTS", x.look(5), 1);
    }

    /** "All of it asked ahead of (b)". */
    private static void amountsAreAskedAhead() {
        NeverHalted x = goers(3);
        x.walker(0, 0);
        x.set(1, 0, 60);
        x.set(4, 3, 200);
        Due.told(x, 1, "tire food;eat feet+row+20 when food=60;eat 99;ease food-50;", 4);
        x.hours(1);
        for (int w = 0; w < 3; w++) {
            Due.is("tire of the FOOD ahead", x.of(w, 2), 60);
        }
        Due.is("ease of the FOOD ahead", x.of(3, 2), 190);
        Due.is("eat of FEET, ROW and FOOD ahead", x.look(8), 0);
        NeverHalted y = goers(2);
        y.set(1, 0, 1000);
        Due.told(y, 1, "tire 30;eat feet+row;", 2);
        y.hours(1);
        Due.is("eat of FEET and ROW ahead", y.look(8), 1000);
        y.hours(1);
        Due.is("eat of FEET and ROW ahead", y.look(8), 938);
        NeverHalted z = goers(1);
        Due.told(z, 2, "stone 1 for 1 food 0;stone 0 for 1 river 1 food 0;", 2);
        Due.told(z, 1, "tire leg*10+own*20+river*40+clock;", 1);
        z.hours(1);
        Due.is("tire ahead of (c) and (d)", z.of(0, 2), 0);
        z.hours(1);
        Due.is("tire ahead of (c) and (d)", z.of(0, 2), 71);
    }

    /** "feet, row, lame: his": of one HOUR each goes, tires, rests and eats by his own. */
    private static void eachIsAskedOfHimself() {
        NeverHalted x = goers(4);
        x.walker(4, 1);
        x.walker(5, 0);
        int[] feet = {1, 20, 30, 40, 50, 60};
        for (int w = 0; w < 6; w++) {
            x.set(4, w, feet[w]);
        }
        x.set(5, 1, 1);
        x.set(1, 0, 500);
        Due.told(x, 0, "stay when feet=30;", 1);
        Due.told(x, 1, "tire feet*2+lame;ease feet/10+lame;eat feet;", 3);
        x.hours(1);
        int[] due = {3, 61, 27, 120, 44, 54};
        for (int w = 0; w < 6; w++) {
            Due.is("FEET of " + w, x.of(w, 2), due[w]);
            Due.is("ROW of " + w, x.of(w, 3), w == 2 || w > 3 ? 0 : 1);
        }
        Due.is("FOOD", x.look(8), 500 - 1 - 20 - 40);
    }

    private static NeverHalted onARiver(int flood, int state) {
        NeverHalted x = goers(1);
        Due.told(x, 2, "stone 0 for 9 river 9 food 0;", 1);
        x.set(2, 0, flood);
        x.state(state);
        return x;
    }

    /** "on a river's hour with FLOOD above 0 a DRAW of 1000: below FLOOD they mark time". */
    private static void floodAtItsEdges() {
        NeverHalted x = onARiver(0, 55);
        x.hours(1);
        Due.is("FLOOD 0: no DRAW", x.look(11), 55);
        Due.is("FLOOD 0: on", x.look(3), 1);
        int[][] due = {{1, 0, 0}, {1, 1, 1}, {500, 499, 0}, {500, 500, 1}, {999, 998, 0}, {999, 999, 1}, {1000, 999, 0}};
        for (int[] d : due) {
            for (int sign = 0; sign < 2; sign++) {
                int state = Draws.stateFor(d[1], sign == 1);
                x = onARiver(d[0], state);
                x.hours(1);
                Due.is("FLOOD " + d[0] + " and a draw of " + d[1], x.look(3), d[2]);
                Due.is("a DRAW", x.look(11), Draws.next(state));
                Due.is("marked time in the book", x.look(10), 1 - d[2]);
                Due.is("they went all the same", x.of(0, 3), 1);
                Due.is("HOUR is one more", x.look(1), 1);
            }
        }
    }

    private static void floodOnlyOnARiver() {
        NeverHalted x = goers(1);
        Due.told(x, 2, "stone 0 for 3 river 1 food 0;stone 1 for 1 food 0;", 2);
        x.set(2, 0, 1000);
        x.hours(2);
        Due.is("ahead of the river: no DRAW", x.look(11), 0);
        Due.is("ahead of the river: on", x.look(3), 2);
        x.hours(3);
        Due.is("on it they mark time", x.look(3), 2);
        Due.is("on it they mark time", x.look(2), 0);
        Due.is("three lines", x.look(10), 3);
        x.set(2, 0, 0);
        x.hours(1);
        Due.is("over it", x.look(2), 1);
        x.set(2, 0, 1000);
        int state = x.look(11);
        x.hours(1);
        Due.is("no river: no DRAW", x.look(11), state);
        Due.is("no river: on", x.look(7), 1);
        Due.told(x, 2, "stone 0 for 3 river 3 food 0;", 1);
        Due.told(x, 0, "stay;", 1);
        x.hours(2);
        Due.is("nobody on the river: no DRAW", x.look(11), state);
        Due.is("nobody on the river: not marked", x.book(x.look(10) - 1, 1), 1);
    }

    /** "Of one HOUR in the order 1 or 2, 4, 3, 0": the DRAW for a war comes ahead of that for a flood. */
    private static void warIsDrawnAheadOfFlood() {
        for (int way = 0; way < 4; way++) {
            boolean war = (way & 1) != 0;
            boolean flood = (way & 2) != 0;
            int state = Draws.stateForTwo(war, flood, 500);
            NeverHalted x = onARiver(500, state);
            x.set(3, 0, 500);
            x.set(0, 0, 2);
            x.hours(1);
            Due.is("WARS", x.look(6), war ? 1 : 0);
            Due.is("GONE", x.look(3), flood ? 0 : 1);
            Due.is("two DRAWS", x.look(11), Draws.next(Draws.next(state)));
        }
    }

    private static void aRiverIsCrossedByHours() {
        NeverHalted x = onARiver(300, 4711);
        int state = 4711;
        int gone = 0;
        for (int hour = 0; hour < 40 && gone < 9; hour++) {
            gone += Draws.value(state) < 300 ? 0 : 1;
            state = Draws.next(state);
            x.hours(1);
            Due.is("GONE", x.look(3), gone % 9);
            Due.is("ROUNDS", x.look(7), gone / 9);
        }
        Due.is("over it", gone, 9);
    }

    /** "is it the hours of this STONE, LEG is the next one, GONE 0, .. from the last one to the first ROUNDS is one more". */
    private static void comesToTheNextStone() {
        NeverHalted x = goers(1);
        Due.told(x, 1, EAT_NOTHING, 1);
        Due.told(x, 2, "stone 3 for 24 food 1;stone 4 for 1 food 10;stone 5 for 2 food 50;", 3);
        int[][] due = {{23, 0, 23, 0, 0}, {1, 1, 0, 10, 0}, {1, 2, 0, 60, 0}, {1, 2, 1, 60, 0}, {1, 0, 0, 61, 1}, {24, 1, 0, 71, 1},
            {3, 0, 0, 122, 2}};
        for (int[] d : due) {
            x.hours(d[0]);
            Due.is("LEG", x.look(2), d[1]);
            Due.is("GONE", x.look(3), d[2]);
            Due.is("FOOD", x.look(8), d[3]);
            Due.is("ROUNDS", x.look(7), d[4]);
        }
        int[] stones = {1, 2, 0, 1, 2, 0};
        int[] hours = {23, 24, 26, 50, 51, 53};
        Due.is("lines", x.look(10), 6);
        for (int i = 0; i < 6; i++) {
            Due.is("its HOUR", x.book(i, 0), hours[i]);
            Due.is("what", x.book(i, 1), 0);
            Due.is("the STONE", x.book(i, 2), stones[i]);
        }
    }

    private static void aRoundOfOneStone() {
        NeverHalted x = goers(1);
        Due.told(x, 1, EAT_NOTHING, 1);
        Due.told(x, 2, "stone 3 for 1 food 9;", 1);
        x.hours(5);
        Due.is("LEG", x.look(2), 0);
        Due.is("ROUNDS", x.look(7), 5);
        Due.is("FOOD", x.look(8), 45);
        Due.is("lines", x.look(10), 5);
    }

    /** "If somebody goes and there is a ROUND". */
    private static void nobodyStandsStill() {
        NeverHalted x = goers(1);
        Due.told(x, 2, "stone 3 for 1 food 9;", 1);
        Due.told(x, 0, "stay when clock=0 or clock=2;", 1);
        x.hours(1);
        Due.is("nobody", x.look(7), 0);
        x.hours(1);
        Due.is("one is enough, though LEAST is more", x.look(7), 1);
        x.set(0, 0, 10);
        x.hours(1);
        Due.is("nobody", x.look(7), 1);
        x.hours(1);
        Due.is("one is enough, though LEAST is more", x.look(7), 2);
    }

    private static void noRound() {
        NeverHalted x = goers(1);
        x.set(2, 0, 1000);
        x.set(1, 0, 50);
        x.hours(30);
        Due.is("LEG", x.look(2), 0);
        Due.is("GONE", x.look(3), 0);
        Due.is("ROUNDS", x.look(7), 0);
        Due.is("they eat", x.look(8), 20);
        Due.is("no line", x.look(10), 0);
        Due.is("no DRAW", x.look(11), 0);
    }

    private static void line(NeverHalted x, int i, int hour, int what, int number) {
        Due.is("HOUR of line " + i, x.book(i, 0), hour);
        Due.is("what of line " + i, x.book(i, 1), what);
        Due.is("number of line " + i, x.book(i, 2), number);
    }

    /** "what (0 a STONE is come to, 1 nobody, 2 fewer than LEAST (somebody), 3 marked time, 4 a war), its number". */
    private static void theBooksLines() {
        NeverHalted x = goers(2);
        x.set(0, 0, 3);
        Due.told(x, 2, "stone 0 for 2 food 0;stone 1 for 9 river 9 food 0;", 2);
        x.hours(2);
        line(x, 0, 0, 2, 2);
        line(x, 1, 1, 2, 2);
        line(x, 2, 1, 0, 1);
        Due.told(x, 0, "stay;", 1);
        x.hours(1);
        line(x, 3, 2, 1, 0);
        x.set(3, 0, 1000);
        x.hours(1);
        line(x, 4, 3, 1, 0);
        line(x, 5, 3, 4, 0);
        Due.told(x, 0, "", 0);
        x.set(0, 0, 0);
        x.set(2, 0, 1000);
        x.hours(1);
        line(x, 6, 4, 3, 0);
        x.set(2, 0, 0);
        x.hours(8);
        Due.is("hours of which nothing is told", x.look(10), 7);
        x.hours(1);
        line(x, 7, 13, 0, 0);
        Due.is("eight lines", x.look(10), 8);
    }

    /** "Of one HOUR in the order 1 or 2, 4, 3, 0". */
    private static void theBooksOrder() {
        NeverHalted x = goers(1);
        x.set(0, 0, 2);
        x.set(3, 0, 1000);
        x.set(2, 0, 1000);
        Due.told(x, 2, "stone 0 for 1 river 1 food 0;", 1);
        x.hours(1);
        line(x, 0, 0, 2, 1);
        line(x, 1, 0, 4, 0);
        line(x, 2, 0, 3, 0);
        x.set(2, 0, 0);
        x.hours(1);
        line(x, 3, 1, 2, 1);
        line(x, 4, 1, 4, 0);
        line(x, 5, 1, 0, 0);
        Due.told(x, 0, "stay;", 1);
        x.hours(1);
        line(x, 6, 2, 1, 0);
        line(x, 7, 2, 4, 0);
        Due.is("eight lines", x.look(10), 8);
    }

    private static void theBookOfLeastZero() {
        NeverHalted x = new NeverHalted();
        x.hours(1);
        line(x, 0, 0, 1, 0);
        x.set(0, 0, 1);
        x.hours(1);
        line(x, 1, 1, 1, 0);
        Due.is("nobody is one line, not two", x.look(10), 2);
    }

    /** "THE BOOK (150 lines; no more then)". */
    private static void theBookIsFull() {
        NeverHalted x = new NeverHalted();
        x.hours(99);
        x.hours(50);
        Due.is("149 lines", x.look(10), 149);
        Due.is("no 150th yet", x.book(149, 0), NONE);
        x.hours(1);
        Due.is("150 lines", x.look(10), 150);
        line(x, 149, 149, 1, 0);
        x.hours(1);
        Due.is("no more then", x.look(10), 150);
        Due.is("no more then", x.book(150, 0), NONE);
        line(x, 149, 149, 1, 0);
        Due.is("but HALTS", x.look(5), 151);
        x.undo();
        Due.is("still full", x.look(10), 150);
        x.undo();
        Due.is("no more full", x.look(10), 149);
        Due.is("no more full", x.book(149, 0), NONE);
        x.walker(0, 0);
        Due.told(x, 3, "walker 0 from 0 for 24;", 1);
        Due.told(x, 2, "stone 0 for 2 food 0;", 1);
        x.hours(2);
        line(x, 149, 150, 0, 0);
        x.hours(2);
        line(x, 149, 150, 0, 0);
        Due.is("full again", x.look(10), 150);
        Due.is("but ROUNDS", x.look(7), 2);
    }

    private static void theBookIsFullWithinAnHour() {
        NeverHalted x = new NeverHalted();
        x.set(0, 0, 1);
        x.hours(99);
        x.hours(50);
        x.set(3, 0, 1000);
        x.hours(1);
        Due.is("one of two lines", x.look(10), 150);
        line(x, 149, 149, 1, 0);
        Due.is("but WARS", x.look(6), 1);
        Due.is("and SHORT", x.look(4), 150);
        x.undo();
        Due.is("back", x.look(10), 149);
        Due.is("back", x.look(6), 0);
    }

    /** "HOURS go by (1 .. 99): how many were SHORT". */
    private static void hoursAnswersWhatWasShort() {
        NeverHalted x = new NeverHalted();
        x.walker(0, 0);
        x.set(0, 0, 1);
        Due.told(x, 3, "walker 0 from 1 for 22;", 1);
        Due.is("0 and 23", x.hours(24), 2);
        Due.is("0", x.hours(23), 1);
        Due.is("23", x.hours(1), 1);
        Due.is("of four days", x.hours(96), 8);
        Due.is("SHORT", x.look(4), 12);
    }
}
