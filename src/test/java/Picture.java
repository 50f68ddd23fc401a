import java.util.ArrayList;
import java.util.List;

/** All that can be asked of an object, to tell two of them apart; an object is of no more use then. */
final class Picture {
    private static final int BOOK_LINES = 12;
    private final NeverHalted x;
    private final List<String> names = new ArrayList<>();
    private final List<Integer> answers = new ArrayList<>();

    private Picture(NeverHalted x) {
        this.x = x;
        now();
        tape();
        undone();
        put("image(false)", x.image(false) ? 1 : 0);
        now();
    }

    /** Two objects answer alike, with what they have kept to undo, their images and their tapes. */
    static void same(String what, NeverHalted x, NeverHalted y) {
        Picture got = new Picture(x);
        Picture due = new Picture(y);
        Due.is(what + ": how much is seen", got.names.size(), due.names.size());
        for (int i = 0; i < Math.min(got.names.size(), due.names.size()); i++) {
            Due.is(what + ": then " + got.names.get(i), got.answers.get(i), due.answers.get(i));
        }
    }

    private void put(String name, int answer) {
        names.add(name);
        answers.add(answer);
    }

    private void now() {
        for (int what = 0; what <= 22; what++) {
            put("look(" + what + ")", x.look(what));
        }
        int walkers = x.look(0);
        for (int w = 0; w < walkers; w++) {
            for (int what = 0; what < 9; what++) {
                put("of(" + w + ", " + what + ")", x.of(w, what));
            }
        }
        int stones = x.look(14);
        for (int i = 0; i < stones; i++) {
            for (int what = 0; what < 4; what++) {
                put("stone(" + i + ", " + what + ")", x.stone(i, what));
            }
        }
        int lines = x.look(10);
        for (int i = Math.max(0, lines - BOOK_LINES); i < lines; i++) {
            put("book(" + i + ")", (x.book(i, 0) * 10 + x.book(i, 1)) * 10 + x.book(i, 2));
        }
        put("roadOf(0, 1)", x.roadOf(0, 1));
        put("roadOf(3, 2)", x.roadOf(3, 2));
        put("fault(0)", x.fault(0));
        put("fault(1)", x.fault(1));
    }

    private void tape() {
        put("feed()", x.feed(0x20202020, 0x20202020, 0x20202020, 0x20202020, 0x20202020));
        put("text(0)", x.text(0));
        put("look(12)", x.look(12));
    }

    private void undone() {
        int walkers = x.look(0);
        int[] whats = {1, 2, 3, 8, 10, 11, 16};
        while (x.undo()) {
            for (int what : whats) {
                put("look(" + what + ") when undone", x.look(what));
            }
            for (int w = 0; w < walkers; w++) {
                put("of(" + w + ") when undone", (x.of(w, 2) * 1000 + x.of(w, 3)) * 10 + x.of(w, 0));
            }
        }
    }
}
