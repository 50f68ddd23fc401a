/** Promises 1 to 9: a new object, what is told, the tape, the texts and their faults; and 13 to 15, which ask for it. */
public final class TellingTest {
    private static final int NONE = NeverHalted.NONE;

    public static void main(String[] args) {
        promise1NewObject();
        promise2State();
        promise3Walker();
        promise4Set();
        promise5And15Road();
        promise6Feed();
        promise7End();
        promise8TextTakesTheTape();
        promise8LawGrammar();
        promise8RoundGrammar();
        promise8ShiftsGrammar();
        promise9FaultsOfOrder();
        promise9FaultsOfTokens();
        promise9Limits();
        promise13Of();
        promise13LawValues();
        promise14Stone();
        Due.close();
    }

    private static void promise1NewObject() {
        NeverHalted x = new NeverHalted();
        for (int what = 0; what <= 22; what++) {
            Due.is("new look(" + what + ")", x.look(what), what == 18 || what == 19 ? NONE : 0);
        }
        Due.is("new fault(0)", x.fault(0), 0);
        Due.is("new fault(1)", x.fault(1), NONE);
        Due.is("new book", x.book(0, 0), NONE);
        Due.no("new undo()", x.undo());
        Due.no("new image(false)", x.image(false));
        Due.is("NONE", NeverHalted.NONE, -1);
    }

    private static void promise2State() {
        NeverHalted x = new NeverHalted();
        Due.is("state", x.state(Integer.MIN_VALUE), 0);
        Due.is("state", x.state(-1), Integer.MIN_VALUE);
        Due.is("state", x.look(11), -1);
        x.carry(1);
        x.state(-1);
        Due.is("state told forgets", x.look(16), 0);
    }

    private static void promise3Walker() {
        NeverHalted x = new NeverHalted();
        int[][] cannot = {{-1, 0}, {8, 0}, {0, -1}, {0, 2}, {Integer.MIN_VALUE, 0}, {0, Integer.MAX_VALUE}};
        x.carry(1);
        for (int[] c : cannot) {
            Due.is("walker that can't be", x.walker(c[0], c[1]), NONE);
        }
        Due.is("refused walkers forget nothing", x.look(16), 1);
        for (int i = 0; i < 10; i++) {
            Due.is("walker", x.walker(i % 8, i % 2), i);
        }
        Due.is("told walkers forget", x.look(16), 0);
        Due.is("the eleventh", x.walker(0, 0), NONE);
        Due.is("walkers", x.look(0), 10);
    }

    private static void promise4Set() {
        NeverHalted x = new NeverHalted();
        x.walker(3, 0);
        int[] most = {10, 9999, 1000, 1000, 999, 1};
        for (int what = 0; what < 6; what++) {
            Due.no("set " + what + " below", x.set(what, 0, -1));
            Due.no("set " + what + " above", x.set(what, 0, most[what] + 1));
            Due.yes("set " + what + " most", x.set(what, 0, most[what]));
            x.carry(1);
            Due.yes("set " + what + " least", x.set(what, 0, 0));
            Due.is("set " + what + " forgets", x.look(16), 0);
        }
        for (int what = 0; what < 4; what++) {
            Due.yes("who not asked", x.set(what, -5, 7));
        }
        Due.is("LEAST", x.look(20), 7);
        Due.is("FOOD", x.look(8), 7);
        Due.is("FLOOD", x.look(21), 7);
        Due.is("WAR", x.look(22), 7);
        Due.yes("feet", x.set(4, 0, 12));
        Due.yes("lame", x.set(5, 0, 1));
        Due.is("FEET", x.of(0, 2), 12);
        Due.is("LAME", x.of(0, 1), 1);
        x.carry(1);
        Due.no("no such walker", x.set(4, 1, 0));
        Due.no("no such walker", x.set(5, -1, 0));
        Due.no("another what", x.set(6, 0, 0));
        Due.no("another what", x.set(-1, 0, 0));
        Due.is("refused, it forgets nothing", x.look(16), 1);
    }

    private static void promise5And15Road() {
        NeverHalted x = new NeverHalted();
        x.carry(1);
        Due.yes("road", x.road(7, 2, 99));
        Due.is("roadOf", x.roadOf(2, 7), 99);
        Due.is("roadOf", x.roadOf(7, 2), 99);
        Due.yes("road anew", x.road(2, 7, 1));
        Due.is("roadOf", x.roadOf(7, 2), 1);
        Due.yes("road none", x.road(2, 7, 0));
        Due.is("roadOf none", x.roadOf(7, 2), NONE);
        Due.no("to itself", x.road(3, 3, 1));
        Due.no("to itself", x.road(3, 3, 0));
        Due.no("below", x.road(-1, 3, 1));
        Due.no("above", x.road(3, 8, 1));
        Due.no("hours below", x.road(3, 4, -1));
        Due.no("hours above", x.road(3, 4, 100));
        Due.is("roadOf itself", x.roadOf(3, 3), NONE);
        Due.is("roadOf below", x.roadOf(-1, 3), NONE);
        Due.is("roadOf above", x.roadOf(3, 8), NONE);
        Due.is("roads forget nothing", x.look(16), 1);
    }

    private static void promise6Feed() {
        NeverHalted x = new NeverHalted();
        for (int i = 1; i <= 20; i++) {
            Due.is("feed", x.feed(0x20202020, 0x20202020, 0x20202020, 0x20202020, 0x20202020), 20 * i);
        }
        Due.is("feed too much", x.feed(1, 2, 3, 4, 5), NONE);
        Due.yes("end", x.end(381));
        Due.is("feed too much by one", x.feed(1, 2, 3, 4, 5), NONE);
        Due.is("400 less 19 blanks are a text", x.text(0), 0);
        Due.is("'go;' by the highest first", x.feed(('g' << 24) + ('o' << 16) + (';' << 8) + ' ', 0x20202020, 0x20202020, 0x20202020, 0x0A0A0A0A), 20);
        Due.is("text", x.text(0), 1);
        x.feed(('g' << 24) + ('o' << 16) + (';' << 8) + 255, 0, 0, 0, 0);
        Due.is("a byte is not a sign", x.text(0), NONE);
        Due.is("its place", x.fault(1), 3);
    }

    private static void promise7End() {
        NeverHalted x = new NeverHalted();
        Due.yes("end(0)", x.end(0));
        Due.no("end(1)", x.end(1));
        Due.no("end(-1)", x.end(-1));
        x.feed(0, 0, 0, 0, 0);
        Due.no("end(21)", x.end(21));
        Due.is("false changes nothing", x.feed(0, 0, 0, 0, 0), 40);
        Due.yes("end(40)", x.end(40));
        Due.yes("end(3)", x.end(3));
        Due.no("end(4)", x.end(4));
        Due.is("behind the first three", x.feed(0, 0, 0, 0, 0), 23);
    }

    private static void promise8TextTakesTheTape() {
        NeverHalted x = new NeverHalted();
        Due.told(x, 0, "stay;", 1);
        Due.is("the tape is empty then", x.feed(0, 0, 0, 0, 0), 20);
        Due.is("a fault", x.text(0), NONE);
        Due.is("the tape is empty then", x.feed(0, 0, 0, 0, 0), 20);
        Due.is("lines stay as they were", x.look(12), 1);
        Due.is("a fault", x.text(0), NONE);
        Due.is("fault", x.fault(0), 1);
        Due.is("no such text", x.text(4), NONE);
        Due.is("fault() tells 0", x.fault(0), 0);
        Due.is("no such text", x.text(-1), NONE);
        Due.is("place", x.fault(1), NONE);
        x.walker(0, 0);
        Due.told(x, 3, "walker 0 from 0 for 24;", 1);
        Due.is("the law that stayed", x.look(9), 0);
        Due.faulty(x, 0, "go when", 1, 7);
        Due.is("the law that stayed", x.look(9), 0);
        Due.told(x, 0, "", 0);
        Due.is("an empty law", x.look(9), 1);
        x.carry(1);
        Due.faulty(x, 2, "stone", 1, 5);
        Due.faulty(x, 3, "walker", 1, 6);
        Due.is("a faulty text forgets nothing", x.look(16), 1);
        Due.told(x, 0, "go;", 1);
        Due.told(x, 1, "eat 2;", 1);
        Due.is("laws forget nothing", x.look(16), 1);
        Due.told(x, 3, "", 0);
        Due.is("shifts forget", x.look(16), 0);
        x.carry(1);
        Due.told(x, 2, "", 0);
        Due.is("a round forgets", x.look(16), 0);
    }

    private static void promise8LawGrammar() {
        NeverHalted x = new NeverHalted();
        Due.told(x, 0, " \ngo when feet<1;stay when row>2 or lame=1 and not(clock=3);\nstay ; ", 3);
        Due.told(x, 1, "tire 3+feet*row/7-2when day=0;ease 1;eat food/9999*2 when not not own=leg-river;", 3);
        Due.told(x, 1, "tire 0009;", 1);
        Due.faulty(x, 0, "go 1;", 1, 3);
        Due.faulty(x, 0, "tire 1;", 1, 0);
        Due.faulty(x, 1, "go;", 1, 0);
        Due.faulty(x, 1, "tire;", 1, 4);
        Due.faulty(x, 1, "tire when feet=1;", 1, 5);
        Due.faulty(x, 1, "tire (1);", 1, 5);
        Due.faulty(x, 1, "tire -1;", 1, 5);
        Due.faulty(x, 1, "tire 1/row;", 1, 7);
        Due.faulty(x, 1, "tire 1*;", 1, 7);
        Due.faulty(x, 1, "tire 1 2;", 1, 7);
        Due.faulty(x, 0, "go when feet;", 1, 12);
        Due.faulty(x, 0, "go when feet<1<2;", 1, 14);
        Due.faulty(x, 0, "go when feet<(1);", 1, 13);
        Due.faulty(x, 0, "go when (feet<1;", 1, 15);
        Due.faulty(x, 0, "go when feet<1);", 1, 14);
        Due.faulty(x, 0, "go when feet<1 or;", 1, 17);
        Due.faulty(x, 0, "go when feet<1 and or 1=1;", 1, 19);
        Due.faulty(x, 0, "go when not;", 1, 11);
        Due.faulty(x, 0, "go when (feet+1)=1;", 1, 15);
        Due.faulty(x, 0, "go;;", 1, 3);
        Due.faulty(x, 0, "go  ", 1, 4);
        Due.faulty(x, 0, "stone", 1, 0);
    }

    private static void promise8RoundGrammar() {
        NeverHalted x = new NeverHalted();
        Due.told(x, 2, "stone0for1food0;stone 7 for 24 river 24 food 99;stone 3for 9river 1food 5;", 3);
        Due.faulty(x, 2, "stone 8 for 1 food 0;", 2, 6);
        Due.faulty(x, 2, "stone 0 for 0 food 0;", 2, 12);
        Due.faulty(x, 2, "stone 0 for 25 food 0;", 2, 12);
        Due.faulty(x, 2, "stone 0 for 3 river 0 food 0;", 2, 20);
        Due.faulty(x, 2, "stone 0 for 3 river 4 food 0;", 2, 20);
        Due.faulty(x, 2, "stone 0 for 3 food 100;", 2, 19);
        Due.faulty(x, 2, "stone 0 for 3;", 1, 13);
        Due.faulty(x, 2, "stone 0 for 3 food 1 river 1;", 1, 21);
        Due.faulty(x, 2, "stone 0 river 3 food 1;", 1, 8);
        Due.faulty(x, 2, "stone 0 for 3 river food 1;", 1, 20);
        Due.faulty(x, 2, "walker 0", 1, 0);
        Due.is("stones stay", x.look(14), 3);
        Due.is("hours stay", x.look(17), 34);
    }

    private static void promise8ShiftsGrammar() {
        NeverHalted x = new NeverHalted();
        Due.faulty(x, 3, "walker 0 from 0 for 1;", 2, 7);
        x.walker(0, 0);
        x.walker(0, 0);
        Due.told(x, 3, "walker 1 from 23 for 24;walker 0 from 0 for 1;", 2);
        Due.faulty(x, 3, "walker 2 from 0 for 1;", 2, 7);
        Due.faulty(x, 3, "walker 1 from 24 for 1;", 2, 14);
        Due.faulty(x, 3, "walker 1 from 0 for 0;", 2, 20);
        Due.faulty(x, 3, "walker 1 from 0 for 25;", 2, 20);
        Due.faulty(x, 3, "walker 1 for 2 from 3;", 1, 9);
        Due.faulty(x, 3, "walker from 0 for 1;", 1, 7);
        Due.is("shifts stay", x.look(15), 2);
        Due.is("over midnight", x.of(0, 8), 1);
        Due.told(x, 3, "walker 1 from 22 for 4;walker 1 from 5 for 1;", 2);
        Due.is("over midnight", x.of(1, 8), 1 << 22 | 1 << 23 | 1 | 2 | 32);
    }

    private static void promise9FaultsOfOrder() {
        NeverHalted x = new NeverHalted();
        Due.faulty(x, 1, "tire 1/0 +;", 2, 7);
        Due.faulty(x, 1, "tire 1/0000;", 2, 7);
        Due.faulty(x, 1, "tire + 1/0;", 1, 5);
        Due.faulty(x, 1, "tire 12345/0;", 1, 5);
        Due.faulty(x, 2, "stone 9 for 99", 2, 6);
        Due.faulty(x, 2, "stone 0 for 99 food", 2, 12);
        Due.is("another what", x.fault(2), NONE);
        Due.is("another what", x.fault(-1), NONE);
    }

    private static void promise9FaultsOfTokens() {
        NeverHalted x = new NeverHalted();
        Due.faulty(x, 0, "gowhen 1=1;", 1, 0);
        Due.faulty(x, 0, "Go;", 1, 0);
        Due.faulty(x, 0, "goX;", 1, 0);
        Due.faulty(x, 0, "goA;", 1, 0);
        Due.faulty(x, 0, "goZ;", 1, 0);
        Due.faulty(x, 0, "goz;", 1, 0);
        Due.faulty(x, 0, "goa;", 1, 0);
        Due.faulty(x, 0, "go@;", 1, 2);
        Due.faulty(x, 0, "go[;", 1, 2);
        Due.faulty(x, 0, "go`;", 1, 2);
        Due.faulty(x, 0, "go{;", 1, 2);
        Due.faulty(x, 0, "go" + (char) 233 + ";", 1, 2);
        Due.faulty(x, 0, ";".repeat(400), 1, 0);
        Due.faulty(x, 1, "tire " + "1+".repeat(197) + "1", 1, 400);
        Due.told(x, 1, "eat " + "1+".repeat(197) + "1;", 1);
        Due.faulty(x, 0, "go\t;", 1, 2);
        Due.faulty(x, 0, "go,", 1, 2);
        Due.faulty(x, 0, "go when 1=12345;", 1, 10);
        Due.faulty(x, 0, "go when 1=1 2;", 1, 12);
        Due.told(x, 0, "go when 1=9999or 0<feet;", 1);
        Due.faulty(x, 0, "go when own<=1;", 1, 12);
        Due.faulty(x, 0, "go when wal=1;", 1, 8);
    }

    private static void promise9Limits() {
        NeverHalted x = new NeverHalted();
        x.walker(0, 0);
        Due.told(x, 0, "go;".repeat(16), 16);
        Due.faulty(x, 0, "go;".repeat(17), 3, 48);
        Due.faulty(x, 0, "go;".repeat(16) + " go when", 3, 49);
        Due.faulty(x, 0, "go;".repeat(16) + "when", 1, 48);
        Due.told(x, 1, "eat 1;".repeat(16), 16);
        Due.faulty(x, 1, "eat 1;".repeat(16) + "tire", 3, 96);
        String stone = "stone 0 for 1 food 0;";
        Due.told(x, 2, stone.repeat(8), 8);
        Due.faulty(x, 2, stone.repeat(9), 3, 8 * stone.length());
        Due.faulty(x, 2, stone.repeat(8) + "9", 1, 8 * stone.length());
        String shift = "walker 0from 0for 1;";
        Due.told(x, 3, shift.repeat(16), 16);
        Due.faulty(x, 3, shift.repeat(16) + " walker 9", 3, 16 * shift.length() + 1);
        Due.told(x, 0, "go when " + "(".repeat(8) + "1=1" + ")".repeat(8) + ";", 1);
        Due.faulty(x, 0, "go when " + "(".repeat(9) + "1=1" + ")".repeat(9) + ";", 3, 16);
        Due.told(x, 0, "go when " + "not ".repeat(8) + "1=1;", 1);
        Due.faulty(x, 0, "go when " + "not ".repeat(9) + "1=1;", 3, 40);
        Due.faulty(x, 0, "go when " + "not(".repeat(4) + "not 1=1;", 3, 24);
        Due.told(x, 0, "go when " + "not(".repeat(4) + "1=1" + ")".repeat(4) + "or not(1=1)and not 1=2;", 1);
        Due.faulty(x, 0, "go when " + "(".repeat(8) + "1=(", 1, 18);
    }

    private static void promise13Of() {
        NeverHalted x = new NeverHalted();
        for (int what = 0; what < 9; what++) {
            Due.is("of no walker", x.of(0, what), NONE - 1);
        }
        x.walker(6, 1);
        int[] due = {6, 1, 0, 0, 0, 10, 5, 1, 0};
        for (int what = 0; what < 9; what++) {
            Due.is("of(0, " + what + ")", x.of(0, what), due[what]);
        }
        Due.is("another what", x.of(0, 9), NONE - 1);
        Due.is("another what", x.of(0, -1), NONE - 1);
        Due.is("no such walker", x.of(-1, 0), NONE - 1);
        Due.is("no such walker", x.of(1, 0), NONE - 1);
        Due.tell(x, 3, "walker 0 from 0 for 1;");
        Due.is("he goes", x.of(0, 4), 1);
        x.hours(1);
        Due.is("his shift is over", x.of(0, 4), 0);
        Due.is("ROW", x.of(0, 3), 1);
        Due.is("FEET", x.of(0, 2), 10);
    }

    /** Each value that a law is told, through the amount that it then answers. */
    private static void promise13LawValues() {
        NeverHalted x = new NeverHalted();
        x.walker(4, 1);
        x.walker(5, 0);
        x.set(4, 0, 33);
        x.set(1, 0, 77);
        Due.is("own without a round", asTire(x, 0, "own"), 0);
        Due.is("river without a round", asTire(x, 0, "river"), 0);
        Due.tell(x, 2, "stone 5 for 2 food 1;stone 4 for 3 river 2 food 2;");
        Due.tell(x, 3, "walker 1 from 0 for 24;");
        Due.is("feet", asTire(x, 0, "feet"), 33);
        Due.is("lame", asTire(x, 0, "lame"), 1);
        Due.is("lame", asTire(x, 1, "lame"), 0);
        Due.is("food", asTire(x, 0, "food"), 77);
        Due.is("own", asTire(x, 0, "own"), 0);
        Due.is("own", asTire(x, 1, "own"), 1);
        Due.tell(x, 1, "");
        x.hours(3);
        Due.is("leg", asTire(x, 0, "leg"), 1);
        Due.is("own", asTire(x, 0, "own"), 1);
        Due.is("row", asTire(x, 1, "row"), 3);
        Due.is("clock", asTire(x, 1, "clock"), 3);
        Due.is("river's first hour", asTire(x, 1, "river"), 1);
        x.undo();
        Due.is("ahead of the river", asTire(x, 1, "river"), 0);
        x.hours(50);
        Due.is("day", asTire(x, 1, "day"), 2);
        Due.is("clock", asTire(x, 1, "clock"), 4);
        Due.is("held to 99", asTire(x, 1, "9999"), 99);
        Due.is("held to 0", asTire(x, 1, "1-2"), 0);
        Due.is("* ahead of +", asTire(x, 1, "2+3*4-1*2"), 12);
        Due.is("from the left", asTire(x, 1, "9-3-2+7/2*2"), 10);
        Due.is("/ towards 0", asTire(x, 1, "0-7/2*1+10"), 7);
        Due.is("a quotient below 0 towards 0", asTire(x, 1, "50+lame-1*15/2"), 43);
        Due.is("ints wrap", asTire(x, 1, "9999*9999*9999/9999/9999"), wrapped() > 99 ? 99 : Math.max(0, wrapped()));
        Due.tell(x, 1, "ease 7;tire 1 when 2<1;tire 2 when 1<2 and not 3=3 or 4>3;tire 3;eat 8 when 1>1;");
        Due.is("the first line that is so", x.of(1, 5), 2);
        Due.is("of its own word", x.of(1, 6), 7);
        Due.is("none is so", x.of(1, 7), 1);
        Due.tell(x, 1, "tire 4 when 1=1 or 1=1 and 1=2;");
        Due.is("and ahead of or", x.of(1, 5), 4);
        Due.tell(x, 1, "tire 4 when (1=1 or 1=1)and 1=2;");
        Due.is("( ahead of and", x.of(1, 5), 10);
        String waiting = "1=2or 1=1and(".repeat(8);
        Due.told(x, 1, "tire 4 when " + waiting + "9-1*2=1+2*3" + ")".repeat(8) + ";", 1);
        Due.is("as much waits as can", x.of(1, 5), 4);
        Due.told(x, 1, "tire 4 when " + waiting + "9-1*2>1+2*3" + ")".repeat(8) + ";", 1);
        Due.is("as much waits as can", x.of(1, 5), 10);
        Due.tell(x, 1, "tire 4 when not 1=2 and 1=2;");
        Due.is("not ahead of and", x.of(1, 5), 10);
        Due.tell(x, 0, "stay when row>60;go when feet>9998;stay when lame=1;");
        Due.is("no line is so: go", x.of(1, 4), 1);
        Due.tell(x, 0, "go when lame=0;stay;");
        Due.is("the first line that is so", x.of(1, 4), 1);
        Due.tell(x, 0, "stay when lame=0;go;");
        Due.is("the first line that is so", x.of(1, 4), 0);
    }

    private static int wrapped() {
        return 9999 * 9999 * 9999 / 9999 / 9999;
    }

    private static int asTire(NeverHalted x, int walker, String e) {
        Due.told(x, 1, "tire " + e + ";", 1);
        return x.of(walker, 5);
    }

    private static void promise14Stone() {
        NeverHalted x = new NeverHalted();
        Due.is("no round", x.stone(0, 0), NONE);
        Due.tell(x, 2, "stone 6 for 4 food 9;stone 2 for 24 river 5 food 0;");
        int[][] due = {{6, 4, 0, 9}, {2, 24, 5, 0}};
        for (int i = 0; i < 2; i++) {
            for (int what = 0; what < 4; what++) {
                Due.is("stone(" + i + ", " + what + ")", x.stone(i, what), due[i][what]);
            }
            Due.is("another what", x.stone(i, 4), NONE);
            Due.is("another what", x.stone(i, -1), NONE);
        }
        Due.is("no such stone", x.stone(2, 0), NONE);
        Due.is("no such stone", x.stone(-1, 0), NONE);
        Due.is("hours of the round", x.look(17), 28);
    }
}
