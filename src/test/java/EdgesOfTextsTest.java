/** Section 2 of the document, sentence by sentence: the texts, their tokens, their bounds, their faults, what a law tells. */
public final class EdgesOfTextsTest {
    private static final int NONE = NeverHalted.NONE;
    private static final String[] WORDS = {"feet", "row", "lame", "clock", "day", "own", "leg", "river", "food", "go", "stay",
        "tire", "ease", "eat", "when", "or", "and", "not", "stone", "for", "walker", "from"};
    /** How many of the words are what a law asks of a walker. */
    private static final int UNITS = 9;
    /** The greatest int, as an E of numbers that have four digits at most. */
    private static final String MOST_INT = "9999*9999*21+9999*4790+8416";
    private static final String LEAST_INT = "0-9999*9999*21-9999*4790-8416-1";

    public static void main(String[] args) {
        textsAreEmptyAtFirst();
        emptyTexts();
        wordsThatOpenALine();
        wordsOfAnE();
        wordsAreWhole();
        eachSignOfTheTape();
        signsThatStandTogether();
        numbersOfOneToFourDigits();
        blanksBetween();
        grammarOfB();
        grammarOfE();
        grammarOfALine();
        roundBounds();
        roundOrder();
        roundHasEightStones();
        behindTheLastStoneComesTheFirst();
        roundToldAnew();
        shiftsBounds();
        shiftsOfWalkersThatThereAreNot();
        shiftsOverMidnight();
        sixteenLines();
        nineOpen();
        closedOnesAreNotOpen();
        partByZero();
        theFirstFaultByItsPlace();
        atOnePlaceTheLeast();
        theEndIsTheTextsLength();
        intsWrap();
        partsGoTowardsZero();
        amountsAreHeld();
        amountsUntold();
        goingUntold();
        lawValuesAtTheirEdges();
        theLongestE();
        ownAndRiverWithoutARound();
        riverHours();
        Due.close();
    }

    private static NeverHalted oneWalker() {
        NeverHalted x = new NeverHalted();
        x.walker(0, 0);
        Due.told(x, 3, "walker 0 from 0 for 24;", 1);
        return x;
    }

    private static boolean isSo(String b) {
        NeverHalted x = oneWalker();
        Due.told(x, 0, "go when " + b + ";stay;", 2);
        return x.of(0, 4) == 1;
    }

    private static int tire(String e) {
        NeverHalted x = oneWalker();
        Due.told(x, 1, "tire " + e + ";", 1);
        return x.of(0, 5);
    }

    private static void told(int k, String text, int lines) {
        NeverHalted x = new NeverHalted();
        x.walker(0, 0);
        x.walker(0, 0);
        Due.told(x, k, text, lines);
        int[] what = {12, 13, 14, 15};
        Due.is("the lines of '" + text + "'", x.look(what[k]), lines);
    }

    private static void faulty(int k, String text, int fault, int place) {
        NeverHalted x = new NeverHalted();
        x.walker(0, 0);
        x.walker(0, 0);
        Due.faulty(x, k, text, fault, place);
    }

    /** "TEXTS (empty at first)". */
    private static void textsAreEmptyAtFirst() {
        NeverHalted x = new NeverHalted();
        for (int what = 12; what <= 15; what++) {
            Due.is("look(" + what + ")", x.look(what), 0);
        }
        Due.is("hours of THE ROUND", x.look(17), 0);
        Due.is("no STONE", x.stone(0, 0), NONE);
        x.walker(0, 0);
        Due.is("no SHIFT", x.of(0, 8), 0);
        Due.is("no FAULT", x.fault(0), 0);
        Due.is("no place", x.fault(1), NONE);
    }

    private static void emptyTexts() {
        for (int k = 0; k < 4; k++) {
            told(k, "", 0);
            told(k, " ", 0);
            told(k, "\n", 0);
            told(k, " \n".repeat(200), 0);
            faulty(k, ";", 1, 0);
        }
        NeverHalted x = oneWalker();
        Due.told(x, 0, "stay;", 1);
        Due.told(x, 1, "tire 3;", 1);
        Due.told(x, 2, "stone 0 for 1 food 1;", 1);
        Due.is("by the law", x.look(9), 0);
        for (int k = 0; k < 4; k++) {
            Due.told(x, k, "", 0);
            Due.is("told anew it is empty", x.look(12 + k), 0);
        }
        Due.is("no law", x.of(0, 5), 10);
        Due.is("no shift", x.of(0, 8), 0);
        Due.is("no round", x.stone(0, 0), NONE);
    }

    /** "KEYWORDS (those told here for that text) or none". */
    private static void wordsThatOpenALine() {
        String[] opens = {"go stay", "tire ease eat", "stone", "walker"};
        for (int k = 0; k < 4; k++) {
            for (String word : WORDS) {
                boolean may = (" " + opens[k] + " ").contains(" " + word + " ");
                faulty(k, word, 1, may ? word.length() : 0);
            }
        }
    }

    private static void wordsOfAnE() {
        for (int i = 0; i < WORDS.length; i++) {
            String word = WORDS[i];
            if (i < UNITS) {
                told(0, "go when " + word + "=" + word + ";", 1);
                told(1, "eat " + word + "*" + word + "+" + word + ";", 1);
            } else {
                faulty(0, "go when " + word + "=1;", 1, word.equals("not") ? 11 : 8);
                faulty(0, "go when 1=" + word + ";", 1, 10);
                faulty(1, "tire " + word + ";", 1, 5);
                faulty(1, "tire 2*" + word + ";", 1, 7);
                faulty(1, "tire 2+" + word + ";", 1, 7);
            }
            faulty(1, "tire 2/" + word + ";", 1, 7);
            faulty(2, "stone " + word, 1, 6);
            faulty(3, "walker " + word, 1, 7);
        }
    }

    /** "letters as many as stand together". */
    private static void wordsAreWhole() {
        faulty(0, "g;", 1, 0);
        faulty(0, "goo;", 1, 0);
        faulty(0, "gogo;", 1, 0);
        faulty(0, "GO;", 1, 0);
        faulty(0, "go whe 1=1;", 1, 3);
        faulty(0, "go whenfeet=1;", 1, 3);
        faulty(0, "go when notfeet=1;", 1, 8);
        faulty(0, "go when 1=1 andnot 1=1;", 1, 12);
        faulty(0, "go when fee=1;", 1, 8);
        faulty(0, "go when feets=1;", 1, 8);
        faulty(0, "go when feet" + (char) 228 + "=1;", 1, 12);
        told(0, "go when 1=1and 1=1or 1=1;", 1);
        told(0, "go when not\nfeet=1;", 1);
        faulty(2, "stonefor", 1, 0);
        told(2, "stone0for1river1food0;", 1);
        told(3, "walker0from0for1;", 1);
        told(1, "tire9when9=9;", 1);
    }

    /** Each byte alone, and each behind "go": signs, letters, digits, the two blanks, and what is none of them. */
    private static void eachSignOfTheTape() {
        for (int sign = 0; sign < 256; sign++) {
            char c = (char) sign;
            boolean blank = sign == 32 || sign == 10;
            boolean letter = c >= 'a' && c <= 'z' || c >= 'A' && c <= 'Z';
            if (blank) {
                told(0, "" + c, 0);
                told(0, "go" + c + ";", 1);
                told(0, "" + c + "go;" + c, 1);
            } else {
                faulty(0, "" + c, 1, 0);
                faulty(0, "go" + c + ";", 1, letter ? 0 : c == ';' ? 3 : 2);
                faulty(0, "go;" + c, 1, 3);
            }
        }
    }

    /** Of signs each is a token, however many stand together. */
    private static void signsThatStandTogether() {
        faulty(0, "go when 1<=1;", 1, 10);
        faulty(0, "go when 1>=1;", 1, 10);
        faulty(0, "go when 1==1;", 1, 10);
        faulty(0, "go when 1<>1;", 1, 10);
        faulty(1, "tire 1--1;", 1, 7);
        faulty(1, "tire 1*-1;", 1, 7);
        faulty(1, "tire 1//1;", 1, 7);
        told(0, "go when((1=1));go;", 2);
        told(0, "go;stay;go;", 3);
    }

    /** "digits as many as stand together NUMBERS of 1 to 4 digits or none". */
    private static void numbersOfOneToFourDigits() {
        Due.is("one digit", tire("7"), 7);
        Due.is("two digits", tire("73"), 73);
        Due.is("four digits", tire("0073"), 73);
        Due.is("four digits", tire("9999-9989"), 10);
        Due.is("four digits", tire("0000"), 0);
        faulty(1, "tire 00073;", 1, 5);
        faulty(1, "tire 10000;", 1, 5);
        faulty(1, "tire 00000;", 1, 5);
        faulty(1, "tire " + "1".repeat(300), 1, 5);
        faulty(1, "tire 1 1;", 1, 7);
        faulty(1, "tire 1/00001;", 1, 7);
        told(2, "stone 0007 for 0024 river 0024 food 0099;", 1);
        faulty(2, "stone 00007 for 1 food 1;", 1, 6);
        told(3, "walker 0001 from 0023 for 0024;", 1);
        faulty(3, "walker 00001 from 1 for 1;", 1, 7);
        faulty(3, "walker 1 from 00001 for 1;", 1, 14);
    }

    /** "Blanks (32, 10) between". */
    private static void blanksBetween() {
        told(0, "\n\n  go\n \nwhen\n1\n<\n2\n;\n", 1);
        told(1, "tire 1 + 2 * 3 / 4 - 5 ;", 1);
        faulty(1, "tire 1\t;", 1, 6);
        faulty(1, "tire 1\r\n;", 1, 6);
        faulty(1, "tire 1" + (char) 160 + ";", 1, 6);
        faulty(1, "tire 1" + (char) 0 + ";", 1, 6);
        faulty(1, "ti re 1;", 1, 0);
        faulty(1, "tire 1 0;", 1, 7);
    }

    /** "B = A {or A}. A = C {and C}. C = E (< | = | >) E | not C | ( B )". */
    private static void grammarOfB() {
        Due.yes("<", isSo("1<2"));
        Due.no("< of the same", isSo("2<2"));
        Due.no("< of more", isSo("3<2"));
        Due.no("= of less", isSo("1=2"));
        Due.yes("=", isSo("2=2"));
        Due.no("= of more", isSo("3=2"));
        Due.no("> of less", isSo("1>2"));
        Due.no("> of the same", isSo("2>2"));
        Due.yes(">", isSo("3>2"));
        String[] so = {"1<2", "2=2", "3>2", "(1=1)", "not 1=2"};
        String[] notSo = {"2<1", "2=1", "2>3", "(1=2)", "not 1=1"};
        for (int i = 0; i < so.length; i++) {
            Due.no("not " + so[i], isSo("not " + so[i]));
            Due.yes("not " + notSo[i], isSo("not " + notSo[i]));
            for (int j = 0; j < so.length; j++) {
                Due.yes(so[i] + " and " + so[j], isSo(so[i] + " and " + so[j]));
                Due.no(so[i] + " and " + notSo[j], isSo(so[i] + " and " + notSo[j]));
                Due.no(notSo[i] + " and " + so[j], isSo(notSo[i] + " and " + so[j]));
                Due.yes(so[i] + " or " + so[j], isSo(so[i] + " or " + so[j]));
                Due.yes(so[i] + " or " + notSo[j], isSo(so[i] + " or " + notSo[j]));
                Due.yes(notSo[i] + " or " + so[j], isSo(notSo[i] + " or " + so[j]));
                Due.no(notSo[i] + " or " + notSo[j], isSo(notSo[i] + " or " + notSo[j]));
            }
        }
        Due.yes("and ahead of or", isSo("1=1 or 1=1 and 1=2"));
        Due.yes("and ahead of or", isSo("1=2 and 1=1 or 1=1"));
        Due.no("( ahead of and", isSo("(1=1 or 1=1)and 1=2"));
        Due.no("( ahead of and", isSo("1=2 and(1=1 or 1=1)"));
        Due.no("not of one C", isSo("not 1=2 and 1=2"));
        Due.yes("not of one C", isSo("not 1=1 or 1=1"));
        Due.yes("not of a ( B )", isSo("not(1=2 and 1=2)"));
        Due.no("not of a ( B )", isSo("not(1=1 or 1=1)"));
        Due.yes("not not", isSo("not not 1=1"));
        Due.no("not not not", isSo("not not not 1=1"));
        Due.yes("a row of or", isSo("1=2 or 1=3 or 1=4 or 1=1"));
        Due.no("a row of or", isSo("1=2 or 1=3 or 1=4 or 1=5"));
        Due.yes("a row of and", isSo("1=1 and 2=2 and 3=3 and 4=4"));
        Due.no("a row of and", isSo("1=1 and 2=2 and 3=3 and 4=5"));
        faulty(0, "go when;", 1, 7);
        faulty(0, "go when or 1=1;", 1, 8);
        faulty(0, "go when 1=1 or;", 1, 14);
        faulty(0, "go when 1=1 and;", 1, 15);
        faulty(0, "go when 1=1 not 1=1;", 1, 12);
        faulty(0, "go when 1=1(1=1);", 1, 11);
        faulty(0, "go when ();", 1, 9);
        faulty(0, "go when (1=1;", 1, 12);
        faulty(0, "go when 1=1);", 1, 11);
        faulty(0, "go when (1)=1;", 1, 10);
        faulty(0, "go when 1;", 1, 9);
        faulty(0, "go when 1=;", 1, 10);
        faulty(0, "go when =1;", 1, 8);
        faulty(0, "go when 1=1=1;", 1, 11);
        faulty(0, "go when 1=1 when 1=1;", 1, 12);
    }

    /** "E = T {(+ | -) T}. T = U {* U | / NUMBER}". */
    private static void grammarOfE() {
        Due.is("- from the left", tire("20-5-3"), 12);
        Due.is("- and + from the left", tire("20-5+3"), 18);
        Due.is("* ahead of +", tire("2+3*4"), 14);
        Due.is("* ahead of -", tire("50-3*4-1"), 37);
        Due.is("/ from the left", tire("99/5/2"), 9);
        Due.is("/ and * from the left", tire("7/2*2"), 6);
        Due.is("* and / from the left", tire("7*3/2"), 10);
        Due.is("/ ahead of +", tire("1+9/2"), 5);
        faulty(1, "tire +1;", 1, 5);
        faulty(1, "tire -1;", 1, 5);
        faulty(1, "tire 1+;", 1, 7);
        faulty(1, "tire 1-;", 1, 7);
        faulty(1, "tire 1*;", 1, 7);
        faulty(1, "tire 1/;", 1, 7);
        faulty(1, "tire (1);", 1, 5);
        faulty(1, "tire 1*(2);", 1, 7);
        faulty(1, "tire 1 feet;", 1, 7);
        faulty(1, "tire 2/feet;", 1, 7);
    }

    /** "{(go | stay) [when B] ;}" and "{(tire | ease | eat) E [when B] ;}". */
    private static void grammarOfALine() {
        told(0, "go;stay;go when 1=1;stay when 1=1;", 4);
        told(1, "tire 1;ease 1;eat 1;tire 1 when 1=1;ease 1 when 1=1;eat 1 when 1=1;", 6);
        faulty(0, "go", 1, 2);
        faulty(0, "go stay;", 1, 3);
        faulty(0, "go 1;", 1, 3);
        faulty(0, "go;;", 1, 3);
        faulty(0, "when 1=1;", 1, 0);
        faulty(1, "tire;", 1, 4);
        faulty(1, "tire 1", 1, 6);
        faulty(1, "tire 1 ease 1;", 1, 7);
        faulty(1, "tire when 1=1;", 1, 5);
        faulty(1, "1;", 1, 0);
    }

    /** "stone PARISH for N [river N] food N ;", for 1 .. 24, river 1 .. for, food 0 .. 99. */
    private static void roundBounds() {
        told(2, "stone 0 for 1 food 0;", 1);
        told(2, "stone 7 for 24 food 99;", 1);
        faulty(2, "stone 8 for 1 food 0;", 2, 6);
        faulty(2, "stone 9999 for 1 food 0;", 2, 6);
        faulty(2, "stone 0 for 0 food 0;", 2, 12);
        faulty(2, "stone 0 for 25 food 0;", 2, 12);
        faulty(2, "stone 0 for 1 food 100;", 2, 19);
        faulty(2, "stone 0 for 1 food 9999;", 2, 19);
        told(2, "stone 0 for 1 river 1 food 0;", 1);
        faulty(2, "stone 0 for 1 river 0 food 0;", 2, 20);
        faulty(2, "stone 0 for 1 river 2 food 0;", 2, 20);
        told(2, "stone 0 for 24 river 1 food 0;", 1);
        told(2, "stone 0 for 24 river 24 food 0;", 1);
        faulty(2, "stone 0 for 24 river 0 food 0;", 2, 21);
        faulty(2, "stone 0 for 24 river 25 food 0;", 2, 21);
        faulty(2, "stone 0 for 7 river 8 food 0;", 2, 20);
        NeverHalted x = new NeverHalted();
        Due.told(x, 2, "stone 7 for 24 river 24 food 99;stone 0 for 1 food 0;", 2);
        int[] due = {7, 24, 24, 99, 0, 1, 0, 0};
        for (int i = 0; i < 8; i++) {
            Due.is("stone(" + i / 4 + ", " + i % 4 + ")", x.stone(i / 4, i % 4), due[i]);
        }
    }

    private static void roundOrder() {
        faulty(2, "stone for 1 food 1;", 1, 6);
        faulty(2, "stone 1 food 1;", 1, 8);
        faulty(2, "stone 1 for food 1;", 1, 12);
        faulty(2, "stone 1 for 1 ;", 1, 14);
        faulty(2, "stone 1 for 1 river food 1;", 1, 20);
        faulty(2, "stone 1 for 1 river 1;", 1, 21);
        faulty(2, "stone 1 for 1 food;", 1, 18);
        faulty(2, "stone 1 for 1 food 1", 1, 20);
        faulty(2, "stone 1 for 1 food 1 river 1;", 1, 21);
        faulty(2, "stone 1 river 1 for 1 food 1;", 1, 8);
        faulty(2, "stone 1 for 1 river 1 river 1 food 1;", 1, 22);
        faulty(2, "stone 1 for 1 food 1;;", 1, 21);
        faulty(2, "stone 1 for 1+1 food 1;", 1, 13);
    }

    /** "8 STONES at most", the 9th is FAULT 3 at its KEYWORD. */
    private static void roundHasEightStones() {
        String stone = "stone 5 for 24 food 1;";
        NeverHalted x = new NeverHalted();
        Due.told(x, 2, stone.repeat(7), 7);
        Due.told(x, 2, stone.repeat(8), 8);
        Due.is("the eighth", x.stone(7, 1), 24);
        Due.is("no ninth", x.stone(8, 1), NONE);
        Due.is("hours of THE ROUND", x.look(17), 192);
        Due.faulty(x, 2, stone.repeat(8) + "\n" + stone, 3, 8 * stone.length() + 1);
        Due.faulty(x, 2, stone.repeat(8) + "stone", 3, 8 * stone.length());
        Due.faulty(x, 2, stone.repeat(8) + "food", 1, 8 * stone.length());
        Due.is("it stays as it was", x.look(14), 8);
    }

    /** "behind the last one comes the first". */
    private static void behindTheLastStoneComesTheFirst() {
        NeverHalted x = oneWalker();
        Due.told(x, 2, "stone 1 for 1 food 0;".repeat(8), 8);
        x.hours(7);
        Due.is("the last STONE", x.look(2), 7);
        Due.is("no ROUND yet", x.look(7), 0);
        x.hours(1);
        Due.is("the first STONE", x.look(2), 0);
        Due.is("one ROUND", x.look(7), 1);
    }

    /** "Told anew THE SAINT is at STONE 0, GONE 0", but a FAULT leaves it. */
    private static void roundToldAnew() {
        NeverHalted x = oneWalker();
        String round = "stone 1 for 2 food 0;stone 2 for 3 food 0;";
        Due.told(x, 2, round, 2);
        x.hours(4);
        Due.faulty(x, 2, "stone 0 for 9 food 0", 1, 20);
        Due.is("LEG stays", x.look(2), 1);
        Due.is("GONE stays", x.look(3), 2);
        Due.told(x, 3, "walker 0 from 0 for 24;", 1);
        Due.is("SHIFTS leave LEG", x.look(2), 1);
        Due.told(x, 2, round, 2);
        Due.is("LEG", x.look(2), 0);
        Due.is("GONE", x.look(3), 0);
        x.hours(3);
        Due.told(x, 2, "", 0);
        Due.is("LEG of an empty one", x.look(2), 0);
        Due.is("GONE of an empty one", x.look(3), 0);
        Due.is("ROUNDS stay", x.look(7), 0);
    }

    /** "walker WALKER from CLOCK for N ;", CLOCK 0 .. 23, N 1 .. 24. */
    private static void shiftsBounds() {
        told(3, "walker 0 from 0 for 1;", 1);
        told(3, "walker 1 from 23 for 24;", 1);
        faulty(3, "walker 0 from 24 for 1;", 2, 14);
        faulty(3, "walker 0 from 9999 for 1;", 2, 14);
        faulty(3, "walker 0 from 0 for 0;", 2, 20);
        faulty(3, "walker 0 from 0 for 25;", 2, 20);
        faulty(3, "walker 0 from 0 for 9999;", 2, 20);
        faulty(3, "walker from 0 for 1;", 1, 7);
        faulty(3, "walker 0 for 1;", 1, 9);
        faulty(3, "walker 0 from for 1;", 1, 14);
        faulty(3, "walker 0 from 0;", 1, 15);
        faulty(3, "walker 0 from 0 for;", 1, 19);
        faulty(3, "walker 0 from 0 for 1", 1, 21);
        faulty(3, "walker 0 for 1 from 0;", 1, 9);
        faulty(3, "walker 0 from 0 for 1 food 1;", 1, 22);
        faulty(3, "walker 0 from 0 for 1;;", 1, 22);
    }

    /** "a WALKER that there is not": FAULT 2 at the NUMBER. */
    private static void shiftsOfWalkersThatThereAreNot() {
        NeverHalted x = new NeverHalted();
        for (int many = 0; many <= 10; many++) {
            Due.faulty(x, 3, "walker " + many + " from 0 for 1;", 2, 7);
            if (many > 0) {
                Due.told(x, 3, "walker " + (many - 1) + " from 0 for 1;", 1);
            }
            x.walker(0, 0);
        }
    }

    /** "over midnight, too". */
    private static void shiftsOverMidnight() {
        int all = (1 << 24) - 1;
        int[][] due = {{0, 1, 1}, {23, 1, 1 << 23}, {23, 2, 1 << 23 | 1}, {22, 2, 3 << 22}, {0, 23, all >> 1}, {0, 24, all},
            {1, 23, all - 1}, {1, 24, all}, {23, 23, all - (1 << 22)}, {23, 24, all}, {12, 13, all - 4095 | 1}};
        for (int[] d : due) {
            NeverHalted x = new NeverHalted();
            x.walker(0, 0);
            Due.told(x, 3, "walker 0 from " + d[0] + " for " + d[1] + ";", 1);
            Due.is("CLOCKS from " + d[0] + " for " + d[1], x.of(0, 8), d[2]);
        }
        NeverHalted x = new NeverHalted();
        x.walker(0, 0);
        Due.told(x, 3, "walker 0 from 23 for 2;", 1);
        x.hours(22);
        Due.is("at 22", x.look(9), 0);
        x.hours(1);
        Due.is("at 23", x.look(9), 1);
        x.hours(1);
        Due.is("at 0", x.look(9), 1);
        x.hours(1);
        Due.is("at 1", x.look(9), 0);
    }

    /** "3 (at its KEYWORD) the 17th line of a LAW, of SHIFTS". */
    private static void sixteenLines() {
        String[] line = {"stay when 1=1;", "ease 1 when 1=1;", "", "walker 1from 2for 3;"};
        String[] opens = {"stay", "ease", "", "walker"};
        for (int k = 0; k < 4; k++) {
            if (k == 2) {
                continue;
            }
            int full = 16 * line[k].length();
            told(k, line[k].repeat(15), 15);
            told(k, line[k].repeat(16), 16);
            told(k, line[k].repeat(16) + " \n ", 16);
            faulty(k, line[k].repeat(17), 3, full);
            faulty(k, line[k].repeat(16) + "\n " + opens[k], 3, full + 2);
            faulty(k, line[k].repeat(16) + ";", 1, full);
            faulty(k, line[k].repeat(16) + "when", 1, full);
            faulty(k, line[k].repeat(15) + opens[k], 1, 15 * line[k].length() + opens[k].length());
        }
        faulty(0, "go;".repeat(16) + "tire", 1, 48);
        faulty(1, "eat 1;".repeat(16) + "go", 1, 96);
        NeverHalted x = oneWalker();
        Due.told(x, 0, "stay when 1=2;".repeat(15) + "stay;", 16);
        Due.is("the 16th line is asked", x.look(9), 0);
        Due.told(x, 1, "eat 1 when 1=2;".repeat(15) + "eat 9;", 16);
        Due.is("the 16th line is asked", x.of(0, 7), 9);
        Due.told(x, 3, "walker 0from 1for 1;".repeat(15) + "walker 0 from 9 for 1;", 16);
        Due.is("the 16th line counts", x.of(0, 8), 2 | 1 << 9);
    }

    /** "3 .. (at it) the 9th ( or not that is open". */
    private static void nineOpen() {
        told(0, "go when " + "(".repeat(8) + "1=1" + ")".repeat(8) + ";", 1);
        faulty(0, "go when " + "(".repeat(9) + "1=1" + ")".repeat(9) + ";", 3, 16);
        told(0, "go when " + "not ".repeat(8) + "1=1;", 1);
        faulty(0, "go when " + "not ".repeat(9) + "1=1;", 3, 40);
        told(0, "go when " + "not(".repeat(4) + "1=1" + ")".repeat(4) + ";", 1);
        faulty(0, "go when " + "not(".repeat(4) + "(1=1", 3, 24);
        faulty(0, "go when " + "not(".repeat(4) + "not 1=1", 3, 24);
        told(0, "go when " + "(".repeat(7) + "not 1=1" + ")".repeat(7) + ";", 1);
        faulty(0, "go when " + "(".repeat(7) + "not(1=1", 3, 18);
        faulty(0, "go when " + "(".repeat(7) + "not not 1=1", 3, 19);
        told(1, "eat 1 when " + "(".repeat(8) + "1=1" + ")".repeat(8) + ";", 1);
        faulty(1, "eat 1 when " + "(".repeat(9) + "1=1" + ")".repeat(9) + ";", 3, 19);
        faulty(0, "go when " + "(".repeat(9), 3, 16);
        faulty(0, "go when " + "(".repeat(8), 1, 16);
        Due.yes("eight not", isSo("not ".repeat(8) + "1=1"));
        Due.no("eight not", isSo("not ".repeat(8) + "1=2"));
        Due.no("seven not and a (", isSo("not ".repeat(7) + "(1=1)"));
    }

    private static void closedOnesAreNotOpen() {
        told(0, "go when (1=1)" + "and(1=1)".repeat(12) + ";", 1);
        told(0, "go when not 1=1" + " and not 1=1".repeat(12) + ";", 1);
        told(0, "go when " + "(".repeat(8) + "1=1)or(1=1)and(1=1)or not 1=1" + ")".repeat(7) + ";", 1);
        faulty(0, "go when " + "(".repeat(8) + "1=1)or((1=1", 3, 23);
        faulty(0, "go when " + "(".repeat(8) + "1=1 or(1=1", 3, 22);
        told(0, "go when not(1=1)and not(1=1)and not((1=1));".repeat(3) + "go when " + "(".repeat(8) + "1=1" + ")".repeat(8) + ";", 4);
        told(0, ("go when " + "not ".repeat(8) + "1=1;").repeat(3), 3);
        told(0, "go when " + "not ".repeat(8) + "1=1 and " + "not ".repeat(8) + "1=1;", 1);
        faulty(0, "go when " + "not ".repeat(8) + "1=1 and " + "not ".repeat(9) + "1=1;", 3, 8 + 32 + 8 + 32);
    }

    /** "2 (at the NUMBER) a part by 0". */
    private static void partByZero() {
        told(1, "tire 0/1;", 1);
        faulty(1, "tire 1/0;", 2, 7);
        faulty(1, "tire 1/ 0;", 2, 8);
        faulty(1, "tire 1/0000;", 2, 7);
        faulty(1, "tire 1/00000;", 1, 7);
        faulty(1, "tire 6/2/0;", 2, 9);
        told(1, "tire 6*0+0-0;", 1);
        faulty(0, "go when 1=2/0;", 2, 12);
        faulty(0, "go when 1/0", 2, 10);
        told(0, "go when 9999/9999=1;", 1);
    }

    /** "FAULTS, the first by its place". */
    private static void theFirstFaultByItsPlace() {
        faulty(2, "stone 8 for 0 river 9 food 100", 2, 6);
        faulty(2, "stone 7 for 0 river 9 food 100", 2, 12);
        faulty(2, "stone 7 for 3 river 9 food 100", 2, 20);
        faulty(2, "stone 7 for 3 river 3 food 100", 2, 27);
        faulty(2, "stone 7 for 3 river 3 food 99", 1, 29);
        faulty(3, "walker 9 from 24 for 25", 2, 7);
        faulty(3, "walker 1 from 24 for 25", 2, 14);
        faulty(3, "walker 1 from 23 for 25", 2, 21);
        faulty(3, "walker 1 from 23 for 24", 1, 23);
        faulty(1, "tire 1/0 \t", 2, 7);
        faulty(1, "tire \t 1/0", 1, 5);
        faulty(1, "tire 12345 when 1/0=1;", 1, 5);
        faulty(0, "go when 1/0=1 and " + "(".repeat(9), 2, 10);
        faulty(0, "go;go;when;" + "go;".repeat(20), 1, 6);
    }

    /** "at one place the least". */
    private static void atOnePlaceTheLeast() {
        faulty(2, "stone 12345", 1, 6);
        faulty(3, "walker 99999", 1, 7);
        faulty(0, "go 0;", 1, 3);
        faulty(0, "go when " + "(".repeat(8) + "1=(", 1, 18);
        faulty(0, "go when " + "(".repeat(8) + "1 not", 1, 18);
        faulty(2, "stone 0for 1food 0;".repeat(8) + "walker", 1, 152);
    }

    /** "(the end: the text's length)". */
    private static void theEndIsTheTextsLength() {
        faulty(0, "go", 1, 2);
        faulty(0, "go   ", 1, 5);
        faulty(0, "go\n\n", 1, 4);
        faulty(0, "go" + " ".repeat(398), 1, 400);
        faulty(1, "tire", 1, 4);
        faulty(1, "tire 1 + ", 1, 9);
        faulty(2, "stone 0 for 1 food 0 ", 1, 21);
        faulty(3, " walker ", 1, 8);
        faulty(1, "eat " + "1+".repeat(198), 1, 400);
        told(1, "eat " + "1+".repeat(197) + "1;", 1);
        told(0, "go;" + " ".repeat(397), 1);
        faulty(0, " ".repeat(399) + "x", 1, 399);
        faulty(0, ";".repeat(400), 1, 0);
        faulty(1, "tire" + "1*".repeat(198), 1, 400);
        faulty(1, "eat1" + "+1".repeat(198), 1, 400);
        told(1, "eat1" + "+1".repeat(197) + "\n;", 1);
    }

    /** "Ints, which wrap". */
    private static void intsWrap() {
        Due.yes("the greatest", isSo(MOST_INT + ">0"));
        Due.yes("one more is the least", isSo(MOST_INT + "+1<0"));
        Due.yes("one more is the least", isSo(MOST_INT + "+1=" + LEAST_INT));
        Due.yes("the least", isSo(LEAST_INT + "<0"));
        Due.yes("one less is the greatest", isSo(LEAST_INT + "-1=" + MOST_INT));
        Due.yes("a comparison does not wrap", isSo(LEAST_INT + "<" + MOST_INT));
        Due.no("a comparison does not wrap", isSo(LEAST_INT + ">1"));
        Due.no("a comparison does not wrap", isSo(MOST_INT + "<0-1"));
        Due.yes("2 to the 32", isSo("256*256*256*256=0"));
        Due.yes("2 to the 31", isSo("256*256*256*128=" + LEAST_INT));
        Due.yes("4299140043 is 4172747", isSo("9999*9999*43=9999*417+3164"));
    }

    /** "/ goes towards 0": 9999 * 9999 * 30 is -1295567266. */
    private static void partsGoTowardsZero() {
        Due.yes("a quotient below 0", isSo("9999*9999*30/1000+9999*129+5696=0"));
        Due.yes("the least by 2", isSo("256*256*256*128/2+256*256*256*64=0"));
        Due.yes("the least by 3 is -715827882", isSo("256*256*256*128/3+9999*7158*10+9999*9+9471=0"));
        Due.yes("a quotient above 0", isSo("7/2=3"));
        Due.yes("-3355 by 9999", isSo("256*256*256*255*2/9999/9999=0"));
        Due.yes("1 by 9999", isSo("1/9999=0"));
    }

    /** "held to 0 .. 99". */
    private static void amountsAreHeld() {
        String[] words = {"tire", "ease", "eat"};
        String[] e = {"0-1", "0", "1", "98", "99", "100", "9999", MOST_INT, LEAST_INT, MOST_INT + "+1"};
        int[] due = {0, 0, 1, 98, 99, 99, 99, 99, 0, 0};
        for (int w = 0; w < 3; w++) {
            NeverHalted x = oneWalker();
            for (int i = 0; i < e.length; i++) {
                Due.told(x, 1, words[w] + " " + e[i] + ";", 1);
                Due.is(words[w] + " " + e[i], x.of(0, 5 + w), due[i]);
            }
        }
    }

    /** "(none: tire 10, ease 5, eat 1)". */
    private static void amountsUntold() {
        NeverHalted x = oneWalker();
        String[] laws = {"", "tire 7 when 1=2;ease 7 when 1=2;eat 7 when 1=2;"};
        for (String law : laws) {
            Due.tell(x, 1, law);
            Due.is("tire", x.of(0, 5), 10);
            Due.is("ease", x.of(0, 6), 5);
            Due.is("eat", x.of(0, 7), 1);
        }
        String[] words = {"tire", "ease", "eat"};
        int[] untold = {10, 5, 1};
        for (int told = 0; told < 3; told++) {
            Due.told(x, 1, words[told] + " 33 when 1=1;" + words[told] + " 44;", 2);
            for (int w = 0; w < 3; w++) {
                Due.is("only " + words[told] + ": " + words[w], x.of(0, 5 + w), w == told ? 33 : untold[w]);
            }
        }
        Due.told(x, 1, "tire 1 when 1=2;ease 2;tire 3 when 1=1;tire 4;eat 5 when 2=1;eat 6;", 6);
        Due.is("the first that is so", x.of(0, 5), 3);
        Due.is("the first that is so", x.of(0, 6), 2);
        Due.is("the first that is so", x.of(0, 7), 6);
    }

    /** "the first line of GOING whose B is so, or that has none, is go (none: go)". */
    private static void goingUntold() {
        NeverHalted x = oneWalker();
        String[] laws = {"", "stay when 1=2;", "go;", "stay;", "go;stay;", "stay;go;", "stay when 1=1;go;", "stay when 1=2;go;stay;",
            "go when 1=2;stay;go;", "go when 1=2;", "go when 1=2;stay when 1=2;"};
        int[] due = {1, 1, 1, 0, 1, 0, 0, 1, 0, 1, 1};
        for (int i = 0; i < laws.length; i++) {
            Due.tell(x, 0, laws[i]);
            Due.is("'" + laws[i] + "'", x.look(9), due[i]);
            Due.is("'" + laws[i] + "'", x.of(0, 4), due[i]);
        }
    }

    /** feet, row, lame, clock, day, leg and food at their least and their greatest. */
    private static void lawValuesAtTheirEdges() {
        NeverHalted x = oneWalker();
        x.walker(0, 1);
        Due.is("feet", ask(x, 0, "feet"), 0);
        x.set(4, 0, 999);
        Due.is("feet", ask(x, 0, "feet-900"), 99);
        Due.is("his", ask(x, 1, "feet"), 0);
        Due.is("lame", ask(x, 0, "lame"), 0);
        Due.is("lame", ask(x, 1, "lame"), 1);
        Due.is("food", ask(x, 0, "food"), 0);
        x.set(1, 0, 9999);
        Due.is("food", ask(x, 0, "food-9900"), 99);
        Due.is("row", ask(x, 0, "row"), 0);
        Due.is("clock", ask(x, 0, "clock"), 0);
        Due.is("day", ask(x, 0, "day"), 0);
        x.hours(23);
        Due.is("clock of HOUR 23", ask(x, 0, "clock"), 23);
        Due.is("day of HOUR 23", ask(x, 0, "day"), 0);
        x.hours(1);
        Due.is("clock of HOUR 24", ask(x, 0, "clock"), 0);
        Due.is("day of HOUR 24", ask(x, 0, "day"), 1);
        for (int i = 0; i < 100; i++) {
            x.hours(99);
        }
        x.hours(75);
        Due.is("row", ask(x, 0, "row-900"), 99);
        Due.is("row of who has no shift", ask(x, 1, "row"), 0);
        Due.is("clock of HOUR 9999", ask(x, 0, "clock"), 15);
        Due.is("day of HOUR 9999", ask(x, 0, "day-400"), 16);
        NeverHalted y = oneWalker();
        Due.told(y, 2, "stone 0 for 1 food 0;".repeat(8), 8);
        Due.is("leg", ask(y, 0, "leg"), 0);
        y.hours(7);
        Due.is("leg", ask(y, 0, "leg"), 7);
    }

    /** What is left over of a full tape's sum: nothing of it is lost. */
    private static void theLongestE() {
        NeverHalted x = oneWalker();
        Due.told(x, 1, "eat1" + "+1".repeat(97) + "+0".repeat(100) + ";", 1);
        Due.is("98 times one", x.of(0, 7), 98);
        Due.told(x, 1, "eat1" + "*1".repeat(195) + "*9+9;", 1);
        Due.is("one times one, and so on", x.of(0, 7), 18);
        Due.told(x, 0, "stay when 1=2" + " or 1=2".repeat(55) + ";", 1);
        Due.is("none of them is so", x.look(9), 1);
        Due.told(x, 0, "stay when 1=2" + " or 1=2".repeat(54) + " or 1=1;", 1);
        Due.is("the last of them is so", x.look(9), 0);
    }

    private static int ask(NeverHalted x, int walker, String e) {
        Due.tell(x, 1, "tire " + e + ";");
        return x.of(walker, 5);
    }

    /** "own: 1 if the STONE at LEG is his PARISH's, else 0 (0 without a ROUND)". */
    private static void ownAndRiverWithoutARound() {
        NeverHalted x = oneWalker();
        x.walker(7, 0);
        Due.is("own without a ROUND", ask(x, 0, "own+1"), 1);
        Due.is("river without a ROUND", ask(x, 0, "river+1"), 1);
        Due.is("leg without a ROUND", ask(x, 0, "leg"), 0);
        Due.tell(x, 2, "stone 0 for 2 river 2 food 0;stone 7 for 1 food 0;");
        Due.is("own", ask(x, 0, "own"), 1);
        Due.is("own of another", ask(x, 1, "own+1"), 1);
        Due.is("river", ask(x, 1, "river"), 1);
        x.hours(1);
        Due.is("own behind the STONE", ask(x, 0, "own"), 1);
        x.hours(1);
        Due.is("own at the next one", ask(x, 0, "own"), 0);
        Due.is("own at the next one", ask(x, 1, "own"), 1);
        x.move(0, 7);
        Due.is("own when he has moved", ask(x, 0, "own"), 1);
        Due.tell(x, 2, "");
        Due.is("own without a ROUND again", ask(x, 1, "own"), 0);
        Due.is("river without a ROUND again", ask(x, 1, "river"), 0);
    }

    /** "river: of these the last so many": its first hour, the one ahead of it, its last. */
    private static void riverHours() {
        int[][] rivers = {{1, 0}, {1, 1}, {4, 0}, {4, 1}, {4, 3}, {4, 4}, {24, 24}, {24, 1}};
        for (int[] r : rivers) {
            NeverHalted x = oneWalker();
            Due.tell(x, 1, "tire river;");
            Due.tell(x, 2, "stone 0 for " + r[0] + (r[1] == 0 ? "" : " river " + r[1]) + " food 0;stone 1 for 1 food 0;");
            for (int gone = 0; gone < r[0]; gone++) {
                Due.is("GONE", x.look(3), gone);
                Due.is("river " + r[1] + " of " + r[0] + " at " + gone, x.of(0, 5), gone >= r[0] - r[1] ? 1 : 0);
                x.hours(1);
            }
            Due.is("behind the river", x.of(0, 5), 0);
        }
    }
}
