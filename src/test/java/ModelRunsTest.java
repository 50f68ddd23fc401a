import java.util.Random;

/** Random runs of calls (from fixed seeds), the class against the naive model. */
public final class ModelRunsTest {
    private static final int RUNS = 3000;
    private static final int CALLS = 300;

    private final Random random;
    private final NeverHalted x = new NeverHalted();
    private final Model m = new Model();
    private final StringBuilder told = new StringBuilder();
    private int wrong = 0;

    private ModelRunsTest(long seed) {
        random = new Random(seed);
    }

    public static void main(String[] args) {
        int runs = args.length > 0 ? Integer.parseInt(args[0]) : RUNS;
        int wrong = 0;
        for (int seed = 0; seed < runs && wrong < 5; seed++) {
            wrong += new ModelRunsTest(seed).run(seed);
        }
        System.out.println(wrong == 0 ? runs + " runs are as the model's" : "the class and the model differ");
        if (wrong != 0) {
            System.exit(1);
        }
    }

    private int run(int seed) {
        if (seed % 3 != 0) {
            peopleTheCountry();
        }
        for (int i = 0; i < CALLS && wrong == 0; i++) {
            oneCall();
        }
        if (wrong == 0) {
            compareAll();
        }
        if (wrong != 0) {
            System.out.println("seed " + seed + ":\n" + told);
        }
        return wrong;
    }

    private void due(String call, long got, long want) {
        told.append(call).append(" -> ").append(got).append('\n');
        if (got != want) {
            wrong++;
            told.append("  due is ").append(want).append('\n');
        }
    }

    private void due(String call, boolean got, boolean want) {
        due(call, got ? 1 : 0, want ? 1 : 0);
    }

    private int upTo(int most) {
        return random.nextInt(most + 1);
    }

    /** Mostly a number that may be, now and then one at or beyond the edges, or any int. */
    private int in(int least, int most) {
        int kind = random.nextInt(30);
        if (kind == 0) {
            return least - 1;
        }
        if (kind == 1) {
            return most + 1;
        }
        if (kind == 2) {
            return random.nextBoolean() ? least : most;
        }
        if (kind == 3 && random.nextInt(10) == 0) {
            int[] wild = {Integer.MIN_VALUE, Integer.MAX_VALUE, random.nextInt(), -2};
            return wild[random.nextInt(wild.length)];
        }
        return least > most ? least : least + random.nextInt(most - least + 1);
    }

    private int someone() {
        return in(0, Math.max(0, m.world.walkers.size() - 1));
    }

    private void oneCall() {
        int kind = random.nextInt(100);
        if (kind < 6) {
            int p = in(0, random.nextBoolean() ? 2 : 7);
            int lame = in(0, 1);
            due("walker(" + p + "," + lame + ")", x.walker(p, lame), m.walker(p, lame));
        } else if (kind < 14) {
            set();
        } else if (kind < 18) {
            int a = in(0, 7);
            int b = in(0, 7);
            int h = random.nextInt(6) == 0 ? 0 : in(0, random.nextBoolean() ? 5 : 99);
            due("road(" + a + "," + b + "," + h + ")", x.road(a, b, h), m.road(a, b, h));
        } else if (kind < 28) {
            tell();
        } else if (kind < 40) {
            int n = random.nextInt(3) == 0 ? in(1, 99) : in(1, 5);
            due("hours(" + n + ")", x.hours(n), m.hours(n));
        } else if (kind < 43) {
            int w = someone();
            int p = in(0, 7);
            due("move(" + w + "," + p + ")", x.move(w, p), m.move(w, p));
        } else if (kind < 46) {
            int n = in(1, 999);
            due("carry(" + n + ")", x.carry(n), m.carry(n));
        } else if (kind < 50) {
            due("undo()", x.undo(), m.undo());
        } else if (kind < 52) {
            boolean t = random.nextBoolean();
            due("image(" + t + ")", x.image(t), m.image(t));
        } else if (kind < 53) {
            int v = random.nextInt();
            due("state(" + v + ")", x.state(v), m.state(v));
        } else if (kind < 75) {
            think();
        } else {
            ask();
        }
    }

    /** A start from which most thoughts have an answer. */
    private void peopleTheCountry() {
        for (int i = 2 + upTo(8); i > 0; i--) {
            int p = upTo(7);
            int lame = random.nextInt(4) == 0 ? 1 : 0;
            due("walker(" + p + "," + lame + ")", x.walker(p, lame), m.walker(p, lame));
        }
        for (int a = 0; a < 8; a++) {
            for (int b = 0; b < a; b++) {
                int h = random.nextInt(8) == 0 ? 0 : 1 + upTo(seedIsEven() ? 4 : 98);
                due("road(" + a + "," + b + "," + h + ")", x.road(a, b, h), m.road(a, b, h));
            }
        }
        String[] feet = {"tire 9 when clock<6;tire clock/2+lame*3;", "tire 3+lame;eat 0;", "tire feet/100+clock/6*2;ease 3 when row>2;", ""};
        tell(1, feet[random.nextInt(feet.length)]);
        tell(2, round());
        tell(3, wideShifts());
        int least = upTo(3);
        due("set(0,0," + least + ")", x.set(0, 0, least), m.set(0, 0, least));
    }

    private boolean seedIsEven() {
        return m.world.walkers.size() % 2 == 0;
    }

    private String wideShifts() {
        StringBuilder b = new StringBuilder();
        int longest = 4 + upTo(20);
        for (int i = 6 + upTo(10); i > 0; i--) {
            b.append("walker ").append(upTo(m.world.walkers.size() - 1)).append(" from ").append(upTo(23));
            b.append(" for ").append(1 + upTo(longest - 1)).append(';');
        }
        return b.toString();
    }

    private void set() {
        int[] most = {random.nextInt(5) != 0 ? 3 : 10, 9999, 1000, 1000, 999, 1};
        int what = in(0, 5);
        int v = in(0, what < 0 || what > 5 ? 5 : most[what]);
        int who = someone();
        due("set(" + what + "," + who + "," + v + ")", x.set(what, who, v), m.set(what, who, v));
    }

    private void ask() {
        int kind = random.nextInt(10);
        if (kind == 0) {
            int i = in(0, 7);
            int what = in(0, 3);
            due("stone(" + i + "," + what + ")", x.stone(i, what), m.stone(i, what));
        } else if (kind == 1) {
            int a = in(0, 7);
            int b = in(0, 7);
            due("roadOf(" + a + "," + b + ")", x.roadOf(a, b), m.roadOf(a, b));
        } else if (kind <= 3) {
            int i = in(0, Math.max(0, m.world.book.size() - 1));
            int what = in(0, 2);
            due("book(" + i + "," + what + ")", x.book(i, what), m.book(i, what));
        } else if (kind <= 6) {
            int w = someone();
            int what = in(0, 8);
            due("of(" + w + "," + what + ")", x.of(w, what), m.of(w, what));
        } else {
            int what = in(0, 22);
            due("look(" + what + ")", x.look(what), m.look(what));
        }
    }

    private void think() {
        int what;
        int a;
        int b;
        int c;
        switch (random.nextInt(11)) {
            case 0:
                a = in(1, 99);
                what = in(0, 4);
                due("goes(" + a + "," + what + ")", x.goes(a, what), m.goes(a, what));
                break;
            case 1:
                what = in(0, 1);
                due("cover(" + what + ")", x.cover(what), m.cover(what));
                break;
            case 2:
                what = random.nextInt(4) == 0 ? 0 : in(10, 9 + m.world.walkers.size());
                if (m.world.walkers.size() <= 6 || random.nextInt(40) == 0) {
                    due("watches(" + what + ")", x.watches(what), m.watches(what));
                }
                break;
            case 3:
                a = in(2, random.nextInt(8) == 0 ? 8 : 5);
                what = random.nextInt(3) == 0 ? 0 : in(10, 9 + Math.max(1, Math.min(a, 9)));
                due("tour(" + a + "," + what + ")", x.tour(a, what), m.tour(a, what));
                break;
            case 4:
                a = in(0, Math.max(0, m.all() - 1));
                b = in(1, random.nextBoolean() ? 30 : 999);
                c = in(0, Math.max(0, b < 1 || b > 2000 ? 5 : b - 1));
                due("meets(" + a + "," + b + "," + c + ")", x.meets(a, b, c), m.meets(a, b, c));
                break;
            case 5:
                a = in(0, Math.max(0, m.world.round.size() - 1));
                b = in(1, random.nextBoolean() ? 3 : 9);
                what = in(0, 1);
                due("sees(" + a + "," + b + "," + what + ")", x.sees(a, b, what), m.sees(a, b, what));
                break;
            case 6:
                fits();
                break;
            case 7:
                a = in(1, 12);
                b = in(0, 30);
                due("crossed(" + a + "," + b + ")", x.crossed(a, b), m.crossed(a, b));
                break;
            case 8:
                a = in(0, 9);
                due("line(" + a + ")", x.line(a), m.line(a));
                break;
            case 9:
                a = in(0, 7);
                b = in(0, random.nextBoolean() ? 20 : 99999);
                due("owes(" + a + "," + b + ")", x.owes(a, b), m.owes(a, b));
                break;
            default:
                a = in(0, 23);
                due("asks(" + a + ")", x.asks(a), m.asks(a));
                break;
        }
    }

    private void fits() {
        int w = someone();
        int k = in(1, 10);
        int feet = m.isWalker(w) ? m.world.walkers.get(w).feet : 0;
        int v = random.nextInt(4) == 0 ? in(0, 999) : feet + 5 * (random.nextInt(9) - 4);
        int what = in(0, 1);
        due("fits(" + w + "," + k + "," + v + "," + what + ")", x.fits(w, k, v, what), m.fits(w, k, v, what));
    }

    private void tell() {
        int k = in(0, 3);
        String text;
        switch (k) {
            case 0: text = law("go", "stay"); break;
            case 1: text = law("tire", "ease", "eat"); break;
            case 2: text = round(); break;
            case 3: text = random.nextBoolean() || m.world.walkers.isEmpty() ? shifts() : wideShifts(); break;
            default: text = "go;"; break;
        }
        if (random.nextInt(6) == 0) {
            text = spoilt(text);
        }
        if (text.length() > 400) {
            text = text.substring(0, 400);
        }
        tell(k, text);
        if (random.nextInt(20) == 0) {
            int what = in(0, 1);
            due("fault(" + what + ")", x.fault(what), m.fault(what));
        }
    }

    private void tell(int k, String text) {
        feed(text);
        due("text(" + k + ")", x.text(k), m.text(k));
        due("fault(0)", x.fault(0), m.fault(0));
        due("fault(1)", x.fault(1), m.fault(1));
    }

    private void feed(String text) {
        told.append("\"").append(text).append("\"\n");
        if (random.nextInt(5) == 0) {
            int n = in(0, m.tape.size());
            due("end(" + n + ")", x.end(n), m.end(n));
        }
        due("end(0)", x.end(0), m.end(0));
        for (int from = 0; from < text.length() || from < 400 && random.nextInt(20) == 0; from += 20) {
            int[] n = new int[5];
            for (int i = 0; i < 20; i++) {
                int sign = from + i < text.length() ? text.charAt(from + i) : random.nextInt(256);
                n[i / 4] = n[i / 4] << 8 | sign;
            }
            due("feed(..)", x.feed(n[0], n[1], n[2], n[3], n[4]), m.feed(n));
        }
        if (random.nextInt(10) == 0) {
            int n = text.length() + random.nextInt(40);
            due("end(" + n + ")", x.end(n), m.end(n));
        }
        due("end(" + text.length() + ")", x.end(text.length()), m.end(text.length()));
    }

    private String blank() {
        int kind = random.nextInt(12);
        return kind == 0 ? "\n" : kind == 1 ? "  " : kind < 4 ? " " : "";
    }

    private String spoilt(String text) {
        StringBuilder b = new StringBuilder(text);
        String[] bits = {";", "(", ")", "not ", "/0", "12345", "x", "Go", "go", "when", "food 100", "\t", " ", "9", "0", "\u00e9", "<", "=", "river"};
        for (int i = random.nextInt(2); i >= 0; i--) {
            int at = upTo(b.length());
            int kind = random.nextInt(3);
            if (kind == 0 && at < b.length()) {
                b.deleteCharAt(at);
            } else if (kind == 1) {
                b.insert(at, bits[random.nextInt(bits.length)]);
            } else {
                b.setLength(at);
            }
        }
        return b.toString();
    }

    private String law(String... words) {
        StringBuilder b = new StringBuilder(blank());
        int lines = random.nextInt(12) == 0 ? 15 + random.nextInt(3) : random.nextInt(5);
        boolean isShort = lines > 10;
        for (int i = 0; i < lines; i++) {
            String word = words[random.nextInt(words.length)];
            b.append(word);
            if (words.length == 3) {
                b.append(' ').append(isShort ? "" + upTo(30) : sum());
            }
            if (random.nextInt(3) != 0 && !isShort) {
                b.append(" when ").append(truth(0));
            }
            b.append(blank()).append(';').append(blank());
        }
        return b.toString();
    }

    private String truth(int deep) {
        StringBuilder b = new StringBuilder(comparison(deep));
        for (int i = random.nextInt(5); i > 3 - Math.min(3, deep + 1) && i > 2; i--) {
            b.append(random.nextBoolean() ? " or " : " and ").append(comparison(deep + 1));
        }
        return b.toString();
    }

    private String comparison(int deep) {
        int kind = random.nextInt(10);
        if (kind < 2 && deep < 12) {
            return "not" + (random.nextBoolean() ? " " : "\n") + comparison(deep);
        }
        if (kind < 4 && deep < 12) {
            return "(" + blank() + truth(deep + 1) + ")";
        }
        if (kind == 4 && deep == 0 && random.nextInt(8) == 0) {
            return "((((((((".substring(random.nextInt(3)) + "not feet=1" + "))))))))".substring(random.nextInt(3));
        }
        return sum() + blank() + "<=>".charAt(random.nextInt(3)) + blank() + sum();
    }

    private String sum() {
        StringBuilder b = new StringBuilder(unit());
        for (int i = random.nextInt(6); i > 3; i--) {
            int kind = random.nextInt(4);
            b.append(blank()).append("+-*/".charAt(kind)).append(blank());
            b.append(kind == 3 ? "" + in(1, 20) : unit());
        }
        return b.toString().replace("/-1", "/ 0");
    }

    private String unit() {
        String[] names = {"feet", "row", "lame", "clock", "day", "own", "leg", "river", "food"};
        int kind = random.nextInt(3);
        if (kind != 0) {
            return names[random.nextInt(names.length)];
        }
        return "" + upTo(random.nextInt(6) == 0 ? 9999 : 30);
    }

    private String round() {
        StringBuilder b = new StringBuilder(blank());
        int stones = random.nextInt(10) == 0 ? upTo(9) : upTo(4);
        for (int i = 0; i < stones; i++) {
            int hours = Math.abs(in(1, random.nextInt(4) == 0 ? 24 : 4) % 100);
            b.append("stone ").append(Math.abs(in(0, 7) % 100)).append(" for ").append(hours);
            if (random.nextBoolean()) {
                b.append(" river ").append(Math.abs(in(1, Math.max(1, hours)) % 100));
            }
            b.append(" food ").append(Math.abs(in(0, 99) % 1000)).append(blank()).append(';').append(blank());
        }
        return b.toString();
    }

    private String shifts() {
        StringBuilder b = new StringBuilder(blank());
        int lines = random.nextInt(4) == 0 ? upTo(17) : upTo(6);
        for (int i = 0; i < lines; i++) {
            b.append("walker ").append(Math.abs(someone() % 10000)).append("from").append(blank());
            b.append(Math.abs(in(0, 23) % 10000)).append("for ");
            b.append(Math.abs(in(1, 24) % 10000)).append(blank()).append(';');
        }
        return b.toString();
    }

    private void compareAll() {
        for (int what = -1; what <= 23; what++) {
            due("look(" + what + ")", x.look(what), m.look(what));
        }
        for (int w = 0; w < m.world.walkers.size(); w++) {
            for (int what = 0; what <= 8; what++) {
                due("of(" + w + "," + what + ")", x.of(w, what), m.of(w, what));
            }
        }
        for (int i = 0; i < m.world.book.size(); i++) {
            for (int what = 0; what <= 2; what++) {
                due("book(" + i + "," + what + ")", x.book(i, what), m.book(i, what));
            }
        }
    }
}
