/** What the tests share: to count answers that are not as due, and to tell a text. */
final class Due {
    private static int wrong = 0;

    private Due() {
    }

    static void is(String what, long got, long want) {
        if (got != want) {
            wrong++;
            System.out.println(what + " answered " + got + ", due is " + want);
        }
    }

    static void yes(String what, boolean got) {
        is(what, got ? 1 : 0, 1);
    }

    static void no(String what, boolean got) {
        is(what, got ? 1 : 0, 0);
    }

    static void feed(NeverHalted x, String text) {
        for (int from = 0; from < text.length(); from += 20) {
            int[] n = new int[5];
            for (int i = 0; i < 20; i++) {
                int sign = from + i < text.length() ? text.charAt(from + i) : ' ';
                n[i / 4] = n[i / 4] << 8 | sign;
            }
            x.feed(n[0], n[1], n[2], n[3], n[4]);
        }
        x.end(text.length());
    }

    static int tell(NeverHalted x, int k, String text) {
        feed(x, text);
        return x.text(k);
    }

    static void told(NeverHalted x, int k, String text, int lines) {
        is("the text '" + text + "'", tell(x, k, text), lines);
        is("fault(0) of '" + text + "'", x.fault(0), 0);
        is("fault(1) of '" + text + "'", x.fault(1), -1);
    }

    static void faulty(NeverHalted x, int k, String text, int fault, int place) {
        is("the faulty text '" + text + "'", tell(x, k, text), -1);
        is("fault(0) of '" + text + "'", x.fault(0), fault);
        is("fault(1) of '" + text + "'", x.fault(1), place);
    }

    static void close() {
        System.out.println(wrong == 0 ? "all answers are as due" : wrong + " answers are not as due");
        if (wrong != 0) {
            System.exit(1);
        }
    }
}
