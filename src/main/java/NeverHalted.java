import java.util.Arrays;

/**
 * A procession that goes round a country with its saint by shifts and never halts.
 * What each public method promises stands in the project's document, by number.
 */
public final class NeverHalted {
    /** None. */
    public static final int NONE = -1;

    private static final int WALKERS_MOST = 10;
    private static final int PARISHES = 8;
    private static final int STONES_MOST = 8;
    private static final int LINES_MOST = 16;
    private static final int TAPE_MOST = 400;
    private static final int FED_AT_ONCE = 20;
    private static final int BOOK_MOST = 150;
    private static final int KEPT_MOST = 6;
    private static final int HOUR_MOST = 9999;
    private static final int HOURS_AT_ONCE = 99;
    private static final int FOOD_MOST = 9999;
    private static final int CARRIED_MOST = 999;
    private static final int FEET_MOST = 999;
    private static final int ROW_MOST = 999;
    private static final int ROAD_MOST = 99;
    private static final int STONE_HOURS_MOST = 24;
    private static final int STONE_FOOD_MOST = 99;
    private static final int THOUSAND = 1000;
    private static final int MILLION = 1000000;
    private static final int AMOUNT_MOST = 99;
    private static final int OPEN_MOST = 8;
    private static final int CLOCKS = 24;
    private static final int SUM_MOST = 99999;
    private static final int RIVER_MOST = 12;
    private static final int CROSSING_MOST = 30;
    private static final int FITS_MOST = 10;
    private static final int SLOWEST = 9;
    private static final int OTHER_ROUND_MOST = 999;
    /** Where the rows of an answer begin among the whats of watches() and tour(). */
    private static final int FIRST_OF_ROW = 10;

    private static final int TIRE_UNTOLD = 10;
    private static final int EASE_UNTOLD = 5;
    private static final int EAT_UNTOLD = 1;

    private static final int FAULT_PLACE = 1;
    private static final int FAULT_BOUNDS = 2;
    private static final int FAULT_MANY = 3;

    private static final int BOOK_STONE = 0;
    private static final int BOOK_NOBODY = 1;
    private static final int BOOK_FEW = 2;
    private static final int BOOK_MARKED = 3;
    private static final int BOOK_WAR = 4;

    private static final int VALUES = 9;
    private static final int VALUE_FEET = 0;
    private static final int VALUE_ROW = 1;
    private static final int VALUE_LAME = 2;
    private static final int VALUE_CLOCK = 3;
    private static final int VALUE_DAY = 4;
    private static final int VALUE_OWN = 5;
    private static final int VALUE_LEG = 6;
    private static final int VALUE_RIVER = 7;
    private static final int VALUE_FOOD = 8;

    /** All keywords; the first nine are what a law asks of a walker, in the order of the values. */
    private static final String WORDS = "feet row lame clock day own leg river food go stay tire ease eat when or and not stone for walker from";

    /*
     * A token is one int: a number is itself (0 .. 9999), a keyword and a sign are moved out of its way.
     * A law is kept in the same ints, each sign behind what it joins.
     */
    private static final int NUMBER_DIGITS = 4;
    private static final int NUMBER_MOST = 9999;
    private static final int TOKEN_WORD = 10000;
    private static final int TOKEN_RIVER = TOKEN_WORD + 7;
    private static final int TOKEN_FOOD = TOKEN_WORD + 8;
    private static final int TOKEN_GO = TOKEN_WORD + 9;
    private static final int TOKEN_STAY = TOKEN_WORD + 10;
    private static final int TOKEN_TIRE = TOKEN_WORD + 11;
    private static final int TOKEN_EASE = TOKEN_WORD + 12;
    private static final int TOKEN_EAT = TOKEN_WORD + 13;
    private static final int TOKEN_WHEN = TOKEN_WORD + 14;
    private static final int TOKEN_OR = TOKEN_WORD + 15;
    private static final int TOKEN_AND = TOKEN_WORD + 16;
    private static final int TOKEN_NOT = TOKEN_WORD + 17;
    private static final int TOKEN_STONE = TOKEN_WORD + 18;
    private static final int TOKEN_FOR = TOKEN_WORD + 19;
    private static final int TOKEN_WALKER = TOKEN_WORD + 20;
    private static final int TOKEN_FROM = TOKEN_WORD + 21;
    private static final int TOKEN_SIGN = 20000;
    private static final int TOKEN_STOP = TOKEN_SIGN + ';';
    private static final int TOKEN_PLUS = TOKEN_SIGN + '+';
    private static final int TOKEN_MINUS = TOKEN_SIGN + '-';
    private static final int TOKEN_TIMES = TOKEN_SIGN + '*';
    private static final int TOKEN_PART = TOKEN_SIGN + '/';
    private static final int TOKEN_OPEN = TOKEN_SIGN + '(';
    private static final int TOKEN_SHUT = TOKEN_SIGN + ')';
    private static final int TOKEN_LESS = TOKEN_SIGN + '<';
    private static final int TOKEN_SAME = TOKEN_SIGN + '=';
    private static final int TOKEN_MORE = TOKEN_SIGN + '>';
    private static final int TOKEN_END = 30000;
    private static final int TOKEN_NONE = 30001;
    /** In a law: a part by the number that is added to it. */
    private static final int CODE_PART = 40000;
    /** Two values may wait at each of nine levels, and four in the comparison within. */
    private static final int STACK_MOST = 32;

    private static final int SIGHT_BLANK = 0;
    private static final int SIGHT_LETTER = 1;
    private static final int SIGHT_DIGIT = 2;
    private static final int SIGHT_OTHER = 3;

    private static final int WATCHES = 4;
    private static final int WATCH_HOURS = 6;
    /** Which watches each taking takes, as sets: none, one each, 0 and 2, 1 and 3. */
    private static final int[] TAKINGS = {0, 1, 2, 4, 8, 5, 10};
    private static final int NEVER = 1000000;

    private final Now now;
    private final Told told;
    private final Book book;
    private final Past past;
    private final Now imageNow;
    private final Told imageTold;
    private final Book imageBook;
    private boolean imageTaken;
    private final int[] tape;
    private int tapeLength;
    private final Reader reader;
    private final Asked asked;
    private final Now thought;
    private final WatchPlan watchPlan;
    private final FitSearch fitSearch;
    private final int[] tourRest;
    private final int[] crossing;
    private final int[] inLine;

    public NeverHalted() {
        now = new Now();
        told = new Told();
        book = new Book();
        past = new Past();
        imageNow = new Now();
        imageTold = new Told();
        imageBook = new Book();
        tape = new int[TAPE_MOST];
        reader = new Reader();
        asked = new Asked();
        thought = new Now();
        watchPlan = new WatchPlan();
        fitSearch = new FitSearch(asked, told.ofFeet);
        tourRest = new int[(1 << (PARISHES - 1)) * PARISHES];
        crossing = new int[RIVER_MOST + 1];
        inLine = new int[WALKERS_MOST];
    }

    // ---- what is told ----

    public int state(int v) {
        int before = now.state;
        now.state = v;
        past.forget();
        return before;
    }

    public int walker(int parish, int lame) {
        if (!isParish(parish) || !within(lame, 0, 1) || now.walkers >= WALKERS_MOST) {
            return NONE;
        }
        int number = now.walkers;
        now.parish[number] = parish;
        now.lame[number] = lame;
        now.feet[number] = 0;
        now.row[number] = 0;
        now.walkers = number + 1;
        past.forget();
        return number;
    }

    public boolean set(int what, int who, int v) {
        if (!canBeSet(what, who, v)) {
            return false;
        }
        switch (what) {
            case 0: told.least = v; break;
            case 1: now.food = v; break;
            case 2: told.flood = v; break;
            case 3: told.war = v; break;
            case 4: now.feet[who] = v; break;
            default: now.lame[who] = v; break;
        }
        past.forget();
        return true;
    }

    private boolean canBeSet(int what, int who, int v) {
        switch (what) {
            case 0: return within(v, 0, WALKERS_MOST);
            case 1: return within(v, 0, FOOD_MOST);
            case 2: return within(v, 0, THOUSAND);
            case 3: return within(v, 0, THOUSAND);
            case 4: return isWalker(who) && within(v, 0, FEET_MOST);
            case 5: return isWalker(who) && within(v, 0, 1);
            default: return false;
        }
    }

    public boolean road(int a, int b, int hours) {
        if (!isParish(a) || !isParish(b) || a == b || !within(hours, 0, ROAD_MOST)) {
            return false;
        }
        told.road[a * PARISHES + b] = hours;
        told.road[b * PARISHES + a] = hours;
        return true;
    }

    public int feed(int a, int b, int c, int d, int e) {
        if (tapeLength + FED_AT_ONCE > TAPE_MOST) {
            return NONE;
        }
        feedOne(a);
        feedOne(b);
        feedOne(c);
        feedOne(d);
        feedOne(e);
        return tapeLength;
    }

    private void feedOne(int number) {
        for (int shift = 24; shift >= 0; shift -= 8) {
            tape[tapeLength] = (number >>> shift) & 255;
            tapeLength++;
        }
    }

    public boolean end(int n) {
        if (!within(n, 0, tapeLength)) {
            return false;
        }
        tapeLength = n;
        return true;
    }

    public int text(int k) {
        int length = tapeLength;
        tapeLength = 0;
        reader.begin(tape, length);
        switch (k) {
            case 0: return reader.readsLaw(false) ? told.going.become(reader.law) : NONE;
            case 1: return reader.readsLaw(true) ? told.ofFeet.become(reader.law) : NONE;
            case 2: return reader.readsRound() ? tellRound() : NONE;
            case 3: return reader.readsShifts(now.walkers) ? tellShifts() : NONE;
            default: return NONE;
        }
    }

    private int tellRound() {
        now.leg = 0;
        now.gone = 0;
        past.forget();
        return told.round.become(reader.round);
    }

    private int tellShifts() {
        past.forget();
        return told.shifts.become(reader.shifts);
    }

    public int fault(int what) {
        switch (what) {
            case 0: return reader.fault;
            case 1: return reader.faultPlace;
            default: return NONE;
        }
    }

    // ---- what is done ----

    public int hours(int n) {
        if (!within(n, 1, HOURS_AT_ONCE) || now.hour + n > HOUR_MOST) {
            return NONE;
        }
        int tooFew = 0;
        for (int i = 0; i < n; i++) {
            past.keep(now);
            if (passHour(now, false)) {
                tooFew++;
            }
        }
        return tooFew;
    }

    public boolean move(int walker, int parish) {
        if (!isWalker(walker) || !isParish(parish) || now.parish[walker] == parish) {
            return false;
        }
        past.keep(now);
        now.parish[walker] = parish;
        return true;
    }

    public int carry(int n) {
        if (!within(n, 1, CARRIED_MOST) || now.food + n > FOOD_MOST) {
            return NONE;
        }
        past.keep(now);
        now.food += n;
        return now.food;
    }

    public boolean undo() {
        return past.goBack(now);
    }

    public boolean image(boolean taken) {
        if (taken) {
            imageNow.become(now);
            imageTold.become(told);
            imageBook.become(book);
            imageTaken = true;
            return true;
        }
        if (!imageTaken) {
            return false;
        }
        now.become(imageNow);
        told.become(imageTold);
        book.become(imageBook);
        past.forget();
        return true;
    }

    /** One hour; in thought nothing is drawn or booked. Answers whether fewer than LEAST went. */
    private boolean passHour(Now at, boolean inThought) {
        int going = whoGo(at);
        int many = Integer.bitCount(going);
        boolean tooFew = many < told.least;
        if (tooFew) {
            at.tooFew++;
        }
        if (many == 0) {
            at.halts++;
        }
        if (!inThought) {
            bookMany(at, many, tooFew);
        }
        tireAndEat(at, going);
        if (many > 0 && told.round.stones > 0) {
            goOn(at, inThought);
        }
        at.hour++;
        return tooFew;
    }

    private void bookMany(Now at, int many, boolean tooFew) {
        if (many == 0) {
            book.put(at, BOOK_NOBODY, 0);
        } else if (tooFew) {
            book.put(at, BOOK_FEW, many);
        }
        if (tooFew && told.war > 0 && at.drawOfThousand() < told.war) {
            at.wars++;
            book.put(at, BOOK_WAR, 0);
        }
    }

    /** A walker's laws ask of his own feet and row alone, so each may change as soon as he was asked; FOOD may not. */
    private void tireAndEat(Now at, int going) {
        int eaten = 0;
        for (int w = 0; w < at.walkers; w++) {
            asked.meet(at, told.round, w);
            if ((going >> w & 1) != 0) {
                int tire = asked.amount(told.ofFeet, TOKEN_TIRE);
                eaten += asked.amount(told.ofFeet, TOKEN_EAT);
                at.feet[w] = tired(at.feet[w], tire);
                at.row[w] = oneMoreInRow(at.row[w]);
            } else {
                at.feet[w] = eased(at.feet[w], asked.amount(told.ofFeet, TOKEN_EASE));
                at.row[w] = 0;
            }
        }
        at.food = Math.max(0, at.food - eaten);
    }

    private void goOn(Now at, boolean inThought) {
        Round round = told.round;
        boolean mayFlood = !inThought && told.flood > 0 && round.isRiver(at.leg, at.gone);
        if (mayFlood && at.drawOfThousand() < told.flood) {
            book.put(at, BOOK_MARKED, 0);
            return;
        }
        at.gone++;
        if (at.gone < round.hours[at.leg]) {
            return;
        }
        at.gone = 0;
        at.leg++;
        if (at.leg >= round.stones) {
            at.leg = 0;
            at.rounds++;
        }
        at.food = Math.min(FOOD_MOST, at.food + round.food[at.leg]);
        if (!inThought) {
            book.put(at, BOOK_STONE, at.leg);
        }
    }

    /** Who have a shift at this clock and go, as a set. */
    private int whoGo(Now at) {
        int clock = at.hour % CLOCKS;
        int going = 0;
        for (int w = 0; w < at.walkers; w++) {
            if ((told.shifts.clocksOf(w) >> clock & 1) == 0) {
                continue;
            }
            asked.meet(at, told.round, w);
            if (asked.mayGo(told.going)) {
                going |= 1 << w;
            }
        }
        return going;
    }

    // ---- what is asked ----

    public int of(int walker, int what) {
        if (!isWalker(walker)) {
            return NONE - 1;
        }
        switch (what) {
            case 0: return now.parish[walker];
            case 1: return now.lame[walker];
            case 2: return now.feet[walker];
            case 3: return now.row[walker];
            case 4: return whoGo(now) >> walker & 1;
            case 5: return amountNow(walker, TOKEN_TIRE);
            case 6: return amountNow(walker, TOKEN_EASE);
            case 7: return amountNow(walker, TOKEN_EAT);
            case 8: return told.shifts.clocksOf(walker);
            default: return NONE - 1;
        }
    }

    private int amountNow(int walker, int word) {
        asked.meet(now, told.round, walker);
        return asked.amount(told.ofFeet, word);
    }

    private int tireAt(int walker, int clock) {
        asked.meet(now, told.round, walker);
        asked.setClock(clock);
        return asked.amount(told.ofFeet, TOKEN_TIRE);
    }

    public int stone(int i, int what) {
        Round round = told.round;
        if (!within(i, 0, round.stones - 1)) {
            return NONE;
        }
        switch (what) {
            case 0: return round.parish[i];
            case 1: return round.hours[i];
            case 2: return round.river[i];
            case 3: return round.food[i];
            default: return NONE;
        }
    }

    public int roadOf(int a, int b) {
        if (!isParish(a) || !isParish(b)) {
            return NONE;
        }
        int hours = told.road[a * PARISHES + b];
        return hours > 0 ? hours : NONE;
    }

    public int book(int i, int what) {
        if (!within(i, 0, now.booked - 1)) {
            return NONE;
        }
        switch (what) {
            case 0: return book.hour[i];
            case 1: return book.what[i];
            case 2: return book.number[i];
            default: return NONE;
        }
    }

    public int look(int what) {
        switch (what) {
            case 0: return now.walkers;
            case 1: return now.hour;
            case 2: return now.leg;
            case 3: return now.gone;
            case 4: return now.tooFew;
            case 5: return now.halts;
            case 6: return now.wars;
            case 7: return now.rounds;
            case 8: return now.food;
            case 9: return whoGo(now);
            case 10: return now.booked;
            case 11: return now.state;
            case 12: return told.going.lines;
            case 13: return told.ofFeet.lines;
            case 14: return told.round.stones;
            case 15: return told.shifts.lines;
            case 16: return past.many;
            case 17: return told.round.allHours();
            case 20: return told.least;
            case 21: return told.flood;
            case 22: return told.war;
            default: return NONE;
        }
    }

    // ---- what is done in thought ----

    public int goes(int n, int what) {
        if (!within(n, 1, HOURS_AT_ONCE)) {
            return NONE;
        }
        thought.become(now);
        int tooFew = 0;
        int first = NONE;
        for (int i = 0; i < n; i++) {
            int hour = thought.hour;
            if (passHour(thought, true)) {
                tooFew++;
                first = first == NONE ? hour : first;
            }
        }
        switch (what) {
            case 0: return tooFew;
            case 1: return first;
            case 2: return thought.leg;
            case 3: return thought.gone;
            case 4: return thought.greatestFeet();
            default: return NONE;
        }
    }

    public int cover(int what) {
        if (!within(what, 0, 1)) {
            return NONE;
        }
        int lines = told.shifts.fewestLines(told.least);
        return what == 0 && lines != NONE ? Integer.bitCount(lines) : lines;
    }

    public int watches(int what) {
        int walker = what - FIRST_OF_ROW;
        if (what != 0 && !isWalker(walker)) {
            return NONE;
        }
        watchPlan.begin(now.walkers);
        for (int w = 0; w < now.walkers; w++) {
            for (int watch = 0; watch < WATCHES; watch++) {
                watchPlan.price(w, watch, WATCH_HOURS * tireAt(w, WATCH_HOURS * watch));
            }
        }
        if (!watchPlan.isFound(told.least)) {
            return NONE;
        }
        return what == 0 ? watchPlan.sum : watchPlan.taking[walker];
    }

    public int tour(int n, int what) {
        int i = what - FIRST_OF_ROW;
        if (!within(n, 2, PARISHES) || what != 0 && !within(i, 0, n - 1)) {
            return NONE;
        }
        int all = (1 << (n - 1)) - 1;
        for (int open = 0; open <= all; open++) {
            for (int at = 0; at < n; at++) {
                tourRest[open * PARISHES + at] = leastOnwards(open, at);
            }
        }
        int hours = tourRest[all * PARISHES];
        if (hours >= NEVER) {
            return NONE;
        }
        return what == 0 ? hours : onTour(all, i);
    }

    /** The fewest hours from a parish through the open ones (bit p - 1 is parish p) and back to parish 0. */
    private int leastOnwards(int open, int at) {
        if (open == 0) {
            return roadHours(at, 0);
        }
        int least = NEVER;
        for (int next = 1; next < PARISHES; next++) {
            if ((open >> (next - 1) & 1) != 0) {
                least = Math.min(least, hoursOver(open, at, next));
            }
        }
        return least;
    }

    private int hoursOver(int open, int at, int next) {
        int rest = open & ~(1 << (next - 1));
        return roadHours(at, next) + tourRest[rest * PARISHES + next];
    }

    private int roadHours(int a, int b) {
        int hours = told.road[a * PARISHES + b];
        return hours > 0 ? hours : NEVER;
    }

    /** The i-th parish of the first of the shortest ways. */
    private int onTour(int all, int i) {
        int open = all;
        int at = 0;
        for (int step = 0; step < i; step++) {
            int next = 1;
            while (next < PARISHES - 1 && !isOnTour(open, at, next)) {
                next++;
            }
            open &= ~(1 << (next - 1));
            at = next;
        }
        return at;
    }

    private boolean isOnTour(int open, int at, int next) {
        return (open >> (next - 1) & 1) != 0 && hoursOver(open, at, next) == tourRest[open * PARISHES + at];
    }

    public int meets(int c, int m, int d) {
        Round round = told.round;
        int all = round.allHours();
        if (!within(c, 0, all - 1) || !within(m, 1, OTHER_ROUND_MOST) || !within(d, 0, m - 1)) {
            return NONE;
        }
        int first = Math.floorMod(c - round.hoursTo(now.leg) - now.gone, all);
        for (int turn = 0; turn < m; turn++) {
            int t = first + turn * all;
            if (t % m == d) {
                return t;
            }
        }
        return NONE;
    }

    public int sees(int s, int k, int what) {
        Round round = told.round;
        if (!within(s, 0, round.stones - 1) || !within(k, 1, SLOWEST) || !within(what, 0, 1)) {
            return NONE;
        }
        int all = round.allHours();
        int gone = round.hoursTo(now.leg) + now.gone;
        int seen = NONE;
        int soonest = NEVER;
        for (int i = 0; i < round.stones; i++) {
            int comes = Math.floorMod(round.hoursTo(i) - gone, all);
            int apart = Math.abs(round.hoursTo(i) - round.hoursTo(s));
            boolean isThere = k * Math.min(apart, all - apart) <= comes;
            if (isThere && comes < soonest) {
                seen = i;
                soonest = comes;
            }
        }
        return what == 0 ? seen : soonest;
    }

    public int fits(int walker, int k, int v, int what) {
        if (!isWalker(walker) || !within(k, 1, FITS_MOST) || !within(v, 0, FEET_MOST) || !within(what, 0, 1)) {
            return NONE;
        }
        asked.meet(now, told.round, walker);
        fitSearch.find(now.hour, k, v, now.feet[walker], now.row[walker]);
        return what == 0 ? fitSearch.ways : fitSearch.first;
    }

    public int crossed(int r, int t) {
        if (!within(r, 1, RIVER_MOST) || !within(t, 0, CROSSING_MOST)) {
            return NONE;
        }
        Arrays.fill(crossing, 0);
        crossing[0] = MILLION;
        for (int hour = 0; hour < t; hour++) {
            for (int j = r - 1; j >= 0; j--) {
                int on = crossing[j] * (THOUSAND - told.flood) / THOUSAND;
                crossing[j] -= on;
                crossing[j + 1] += on;
            }
        }
        return crossing[r];
    }

    public int line(int i) {
        int many = lineUp(whoGo(now));
        return within(i, 0, many - 1) ? inLine[i] : NONE;
    }

    private int lineUp(int going) {
        int lame = 0;
        int sound = 0;
        for (int w = 0; w < now.walkers; w++) {
            if ((going >> w & 1) == 0) {
                continue;
            }
            if (now.lame[w] == 1) {
                lame++;
            } else {
                putByFeet(w, sound);
                sound++;
            }
        }
        int half = (sound + 1) / 2;
        for (int i = sound - 1; i >= half; i--) {
            inLine[i + lame] = inLine[i];
        }
        int place = half;
        for (int w = 0; w < now.walkers; w++) {
            if ((going >> w & 1) != 0 && now.lame[w] == 1) {
                inLine[place] = w;
                place++;
            }
        }
        return sound + lame;
    }

    private void putByFeet(int walker, int many) {
        int place = many;
        while (place > 0 && now.feet[inLine[place - 1]] > now.feet[walker]) {
            inLine[place] = inLine[place - 1];
            place--;
        }
        inLine[place] = walker;
    }

    public int owes(int parish, int sum) {
        if (!isParish(parish) || !within(sum, 0, SUM_MOST)) {
            return NONE;
        }
        int all = now.walkers;
        if (all <= 0) {
            return 0;
        }
        int mine = sum * now.walkersOf(parish);
        int left = sum;
        int ahead = 0;
        for (int p = 0; p < PARISHES; p++) {
            int its = sum * now.walkersOf(p);
            left -= its / all;
            if (its % all > mine % all || its % all == mine % all && p < parish) {
                ahead++;
            }
        }
        return mine / all + (ahead < left ? 1 : 0);
    }

    public int asks(int clock) {
        if (!within(clock, 0, CLOCKS - 1)) {
            return NONE;
        }
        int best = NONE;
        int least = NEVER;
        for (int w = 0; w < now.walkers; w++) {
            if ((told.shifts.clocksOf(w) >> clock & 1) != 0) {
                continue;
            }
            int tire = tireAt(w, clock);
            if (tire < least) {
                best = w;
                least = tire;
            }
        }
        return best;
    }

    // ---- small helps ----

    private boolean isWalker(int number) {
        return number >= 0 && number < now.walkers;
    }

    private static boolean isParish(int number) {
        return number >= 0 && number < PARISHES;
    }

    private static boolean within(int v, int least, int most) {
        return v >= least && v <= most;
    }

    private static int tired(int feet, int tire) {
        return Math.min(FEET_MOST, feet + tire);
    }

    private static int eased(int feet, int ease) {
        return Math.max(0, feet - ease);
    }

    private static int oneMoreInRow(int row) {
        return Math.min(ROW_MOST, row + 1);
    }

    /** All that an hour, a move or a carrying changes, and who there is. */
    private static final class Now {
        int state;
        int hour;
        int leg;
        int gone;
        int tooFew;
        int halts;
        int wars;
        int rounds;
        int food;
        int booked;
        int walkers;
        final int[] parish = new int[WALKERS_MOST];
        final int[] lame = new int[WALKERS_MOST];
        final int[] feet = new int[WALKERS_MOST];
        final int[] row = new int[WALKERS_MOST];

        void become(Now other) {
            state = other.state;
            hour = other.hour;
            leg = other.leg;
            gone = other.gone;
            tooFew = other.tooFew;
            halts = other.halts;
            wars = other.wars;
            rounds = other.rounds;
            food = other.food;
            booked = other.booked;
            walkers = other.walkers;
            System.arraycopy(other.parish, 0, parish, 0, WALKERS_MOST);
            System.arraycopy(other.lame, 0, lame, 0, WALKERS_MOST);
            System.arraycopy(other.feet, 0, feet, 0, WALKERS_MOST);
            System.arraycopy(other.row, 0, row, 0, WALKERS_MOST);
        }

        int drawOfThousand() {
            state = 1664525 * state + 1013904223;
            return (state >>> 8) % THOUSAND;
        }

        int greatestFeet() {
            int greatest = 0;
            for (int w = 0; w < walkers; w++) {
                greatest = Math.max(greatest, feet[w]);
            }
            return greatest;
        }

        int walkersOf(int ofParish) {
            int many = 0;
            for (int w = 0; w < walkers; w++) {
                if (parish[w] == ofParish) {
                    many++;
                }
            }
            return many;
        }
    }

    /** All that is told and that no hour changes. */
    private static final class Told {
        int least;
        int flood;
        int war;
        final int[] road = new int[PARISHES * PARISHES];
        final Law going = new Law();
        final Law ofFeet = new Law();
        final Round round = new Round();
        final Shifts shifts = new Shifts();

        void become(Told other) {
            least = other.least;
            flood = other.flood;
            war = other.war;
            System.arraycopy(other.road, 0, road, 0, PARISHES * PARISHES);
            going.become(other.going);
            ofFeet.become(other.ofFeet);
            round.become(other.round);
            shifts.become(other.shifts);
        }
    }

    /** The lines of the book; how many of them count is kept with the hour, so that undoing needs no copy. */
    private static final class Book {
        final int[] hour = new int[BOOK_MOST];
        final int[] what = new int[BOOK_MOST];
        final int[] number = new int[BOOK_MOST];

        void put(Now at, int itsWhat, int itsNumber) {
            if (at.booked >= BOOK_MOST) {
                return;
            }
            hour[at.booked] = at.hour;
            what[at.booked] = itsWhat;
            number[at.booked] = itsNumber;
            at.booked++;
        }

        void become(Book other) {
            System.arraycopy(other.hour, 0, hour, 0, BOOK_MOST);
            System.arraycopy(other.what, 0, what, 0, BOOK_MOST);
            System.arraycopy(other.number, 0, number, 0, BOOK_MOST);
        }
    }

    /** What can be undone, the oldest first. */
    private static final class Past {
        int many;
        private final Now[] kept = new Now[KEPT_MOST];

        Past() {
            for (int i = 0; i < KEPT_MOST; i++) {
                kept[i] = new Now();
            }
        }

        void keep(Now now) {
            if (many == KEPT_MOST) {
                dropOldest();
            }
            kept[many].become(now);
            many++;
        }

        private void dropOldest() {
            Now oldest = kept[0];
            for (int i = 1; i < KEPT_MOST; i++) {
                kept[i - 1] = kept[i];
            }
            kept[KEPT_MOST - 1] = oldest;
            many--;
        }

        boolean goBack(Now now) {
            if (many <= 0) {
                return false;
            }
            many--;
            now.become(kept[many]);
            return true;
        }

        void forget() {
            many = 0;
        }
    }

    /** The stones of the round. */
    private static final class Round {
        int stones;
        final int[] parish = new int[STONES_MOST];
        final int[] hours = new int[STONES_MOST];
        final int[] river = new int[STONES_MOST];
        final int[] food = new int[STONES_MOST];

        void put(int itsParish, int itsHours, int itsRiver, int itsFood) {
            parish[stones] = itsParish;
            hours[stones] = itsHours;
            river[stones] = itsRiver;
            food[stones] = itsFood;
            stones++;
        }

        int become(Round other) {
            stones = other.stones;
            System.arraycopy(other.parish, 0, parish, 0, STONES_MOST);
            System.arraycopy(other.hours, 0, hours, 0, STONES_MOST);
            System.arraycopy(other.river, 0, river, 0, STONES_MOST);
            System.arraycopy(other.food, 0, food, 0, STONES_MOST);
            return stones;
        }

        int hoursTo(int stone) {
            int sum = 0;
            for (int i = 0; i < stone; i++) {
                sum += hours[i];
            }
            return sum;
        }

        int allHours() {
            return hoursTo(stones);
        }

        boolean isRiver(int leg, int gone) {
            return leg < stones && gone >= hours[leg] - river[leg];
        }
    }

    /** Who has which clocks, line by line, and the fewest lines that are enough. */
    private static final class Shifts {
        int lines;
        final int[] walker = new int[LINES_MOST];
        final int[] clocks = new int[LINES_MOST];
        /** The clocks of each walker by the lines of one set. */
        private final int[] held = new int[WALKERS_MOST];
        /** At j the clocks that more than j unlike walkers hold. */
        private final int[] deep = new int[WALKERS_MOST];

        void put(int who, int from, int hours) {
            walker[lines] = who;
            clocks[lines] = 0;
            for (int i = 0; i < hours; i++) {
                clocks[lines] |= 1 << (from + i) % CLOCKS;
            }
            lines++;
        }

        int become(Shifts other) {
            lines = other.lines;
            System.arraycopy(other.walker, 0, walker, 0, LINES_MOST);
            System.arraycopy(other.clocks, 0, clocks, 0, LINES_MOST);
            return lines;
        }

        int clocksOf(int who) {
            int all = 0;
            for (int i = 0; i < lines; i++) {
                if (walker[i] == who) {
                    all |= clocks[i];
                }
            }
            return all;
        }

        /** The least of the smallest sets of lines that give each clock so many walkers; NONE if all don't. */
        int fewestLines(int least) {
            if (lacking((1 << lines) - 1, least) > 0) {
                return NONE;
            }
            for (int many = 0; many <= lines; many++) {
                int set = leastSet(lines - 1, many, 0, least, CLOCKS * least);
                if (set != NONE) {
                    return set;
                }
            }
            return NONE;
        }

        /** Lines are left out first, from the last one on, so that the first set found is the least. */
        private int leastSet(int line, int left, int set, int least, int lack) {
            if (lack == 0) {
                return set;
            }
            if (left <= 0 || line + 1 < left || lack > left * longest(line)) {
                return NONE;
            }
            int allBelow = (1 << line) - 1;
            if (lacking(set | allBelow, least) == 0) {
                int without = leastSet(line - 1, left, set, least, lack);
                if (without != NONE) {
                    return without;
                }
            }
            int with = set | 1 << line;
            return leastSet(line - 1, left - 1, with, least, lacking(with, least));
        }

        private int longest(int last) {
            int most = 0;
            for (int i = 0; i <= last; i++) {
                most = Math.max(most, Integer.bitCount(clocks[i]));
            }
            return most;
        }

        /** How many walkers are missing at all clocks together, if the lines of a set alone stood. */
        private int lacking(int set, int least) {
            Arrays.fill(held, 0);
            for (int i = 0; i < lines; i++) {
                if ((set >> i & 1) != 0) {
                    held[walker[i]] |= clocks[i];
                }
            }
            Arrays.fill(deep, 0);
            for (int w = 0; w < WALKERS_MOST; w++) {
                int rising = held[w];
                for (int j = 0; j < least && rising != 0; j++) {
                    int both = deep[j] & rising;
                    deep[j] |= rising;
                    rising = both;
                }
            }
            int missing = CLOCKS * least;
            for (int j = 0; j < least; j++) {
                missing -= Integer.bitCount(deep[j]);
            }
            return missing;
        }
    }

    /** A law line by line: its word, its amount's code from .. when, its condition's code when .. stop. */
    private static final class Law {
        int lines;
        final int[] word = new int[LINES_MOST];
        final int[] from = new int[LINES_MOST];
        final int[] when = new int[LINES_MOST];
        final int[] stop = new int[LINES_MOST];
        private int length;
        final int[] code = new int[TAPE_MOST];

        void clear() {
            lines = 0;
            length = 0;
        }

        void put(int itsCode) {
            if (length < TAPE_MOST) {
                code[length] = itsCode;
                length++;
            }
        }

        void beginLine(int itsWord) {
            word[lines] = itsWord;
            from[lines] = length;
        }

        void beginCondition() {
            when[lines] = length;
        }

        void endLine() {
            stop[lines] = length;
            lines++;
        }

        int become(Law other) {
            lines = other.lines;
            length = other.length;
            System.arraycopy(other.word, 0, word, 0, LINES_MOST);
            System.arraycopy(other.from, 0, from, 0, LINES_MOST);
            System.arraycopy(other.when, 0, when, 0, LINES_MOST);
            System.arraycopy(other.stop, 0, stop, 0, LINES_MOST);
            System.arraycopy(other.code, 0, code, 0, length);
            return lines;
        }
    }

    /** One walker as a law is told of him, and what it answers then. */
    private static final class Asked {
        private final int[] values = new int[VALUES];
        private final int[] stack = new int[STACK_MOST];

        void meet(Now at, Round round, int walker) {
            setFeet(at.feet[walker], at.row[walker]);
            setHour(at.hour);
            values[VALUE_LAME] = at.lame[walker];
            boolean isOwn = at.leg < round.stones && round.parish[at.leg] == at.parish[walker];
            values[VALUE_OWN] = isOwn ? 1 : 0;
            values[VALUE_LEG] = at.leg;
            values[VALUE_RIVER] = round.isRiver(at.leg, at.gone) ? 1 : 0;
            values[VALUE_FOOD] = at.food;
        }

        void setFeet(int feet, int row) {
            values[VALUE_FEET] = feet;
            values[VALUE_ROW] = row;
        }

        void setHour(int hour) {
            values[VALUE_CLOCK] = hour % CLOCKS;
            values[VALUE_DAY] = hour / CLOCKS;
        }

        void setClock(int clock) {
            values[VALUE_CLOCK] = clock;
        }

        boolean mayGo(Law law) {
            for (int i = 0; i < law.lines; i++) {
                if (holds(law, i)) {
                    return law.word[i] == TOKEN_GO;
                }
            }
            return true;
        }

        int amount(Law law, int word) {
            for (int i = 0; i < law.lines; i++) {
                if (law.word[i] == word && holds(law, i)) {
                    return Math.max(0, Math.min(AMOUNT_MOST, worth(law.code, law.from[i], law.when[i])));
                }
            }
            switch (word) {
                case TOKEN_TIRE: return TIRE_UNTOLD;
                case TOKEN_EASE: return EASE_UNTOLD;
                default: return EAT_UNTOLD;
            }
        }

        private boolean holds(Law law, int line) {
            return law.when[line] == law.stop[line] || worth(law.code, law.when[line], law.stop[line]) != 0;
        }

        private int worth(int[] code, int from, int to) {
            int many = 0;
            for (int i = from; i < to; i++) {
                many = step(code[i], many);
            }
            return stack[0];
        }

        /** Answers how many values lie on the stack then. */
        private int step(int code, int many) {
            if (code < TOKEN_WORD + VALUES) {
                if (many >= STACK_MOST) {
                    return many;
                }
                stack[many] = code < TOKEN_WORD ? code : values[code - TOKEN_WORD];
                return many + 1;
            }
            if (many > 0 && code == TOKEN_NOT) {
                stack[many - 1] = 1 - stack[many - 1];
                return many;
            }
            if (many > 0 && code > CODE_PART) {
                stack[many - 1] /= code - CODE_PART;
                return many;
            }
            if (many < 2) {
                return many;
            }
            stack[many - 2] = joined(code, stack[many - 2], stack[many - 1]);
            return many - 1;
        }

        private static int joined(int code, int a, int b) {
            switch (code) {
                case TOKEN_PLUS: return a + b;
                case TOKEN_MINUS: return a - b;
                case TOKEN_TIMES: return a * b;
                case TOKEN_LESS: return a < b ? 1 : 0;
                case TOKEN_SAME: return a == b ? 1 : 0;
                case TOKEN_MORE: return a > b ? 1 : 0;
                case TOKEN_AND: return a & b;
                default: return a | b;
            }
        }
    }

    /** Reads a tape as one of the texts into drafts of its own, so that a fault leaves what was told. */
    private static final class Reader {
        int fault;
        int faultPlace = NONE;
        final Law law = new Law();
        final Round round = new Round();
        final Shifts shifts = new Shifts();
        private final int[] token = new int[TAPE_MOST + 1];
        private final int[] place = new int[TAPE_MOST + 1];
        private int at;

        void begin(int[] tape, int length) {
            fault = 0;
            faultPlace = NONE;
            at = 0;
            int many = 0;
            for (int i = 0; i < length; i++) {
                if (beginsToken(tape, i)) {
                    token[many] = tokenFrom(tape, i, length);
                    place[many] = i;
                    many++;
                }
            }
            token[many] = TOKEN_END;
            place[many] = length;
        }

        private static boolean beginsToken(int[] tape, int i) {
            int sight = sightOf(tape[i]);
            if (sight == SIGHT_BLANK || sight == SIGHT_OTHER) {
                return sight == SIGHT_OTHER;
            }
            return i == 0 || sightOf(tape[i - 1]) != sight;
        }

        private static int sightOf(int sign) {
            if (sign == ' ' || sign == '\n') {
                return SIGHT_BLANK;
            }
            if (sign >= 'a' && sign <= 'z' || sign >= 'A' && sign <= 'Z') {
                return SIGHT_LETTER;
            }
            return sign >= '0' && sign <= '9' ? SIGHT_DIGIT : SIGHT_OTHER;
        }

        private static int tokenFrom(int[] tape, int from, int length) {
            int sight = sightOf(tape[from]);
            int to = from + 1;
            while (to < length && sightOf(tape[to]) == sight) {
                to++;
            }
            switch (sight) {
                case SIGHT_LETTER: return wordFrom(tape, from, to);
                case SIGHT_DIGIT: return numberFrom(tape, from, to);
                default: return signFrom(tape[from]);
            }
        }

        private static int numberFrom(int[] tape, int from, int to) {
            if (to - from > NUMBER_DIGITS) {
                return TOKEN_NONE;
            }
            int number = 0;
            for (int i = from; i < to; i++) {
                number = number * 10 + tape[i] - '0';
            }
            return number;
        }

        private static int signFrom(int sign) {
            switch (sign) {
                case ';': case '+': case '-': case '*': case '/':
                case '(': case ')': case '<': case '=': case '>':
                    return TOKEN_SIGN + sign;
                default:
                    return TOKEN_NONE;
            }
        }

        private static int wordFrom(int[] tape, int from, int to) {
            int number = 0;
            int begin = 0;
            for (int i = 0; i <= WORDS.length(); i++) {
                if (i < WORDS.length() && WORDS.charAt(i) != ' ') {
                    continue;
                }
                if (i - begin == to - from && isSame(tape, from, begin, to - from)) {
                    return TOKEN_WORD + number;
                }
                number++;
                begin = i + 1;
            }
            return TOKEN_NONE;
        }

        private static boolean isSame(int[] tape, int from, int begin, int length) {
            for (int i = 0; i < length; i++) {
                if (tape[from + i] != WORDS.charAt(begin + i)) {
                    return false;
                }
            }
            return true;
        }

        boolean readsLaw(boolean ofFeet) {
            law.clear();
            for (int i = 0; i <= LINES_MOST; i++) {
                if (token[at] == TOKEN_END) {
                    return true;
                }
                if (!readsLawLine(ofFeet)) {
                    return false;
                }
            }
            return false;
        }

        private boolean readsLawLine(boolean ofFeet) {
            int word = token[at];
            boolean isOfFeet = word == TOKEN_TIRE || word == TOKEN_EASE || word == TOKEN_EAT;
            boolean isOfGoing = word == TOKEN_GO || word == TOKEN_STAY;
            if (!(ofFeet ? isOfFeet : isOfGoing)) {
                return refuses(FAULT_PLACE);
            }
            if (law.lines >= LINES_MOST) {
                return refuses(FAULT_MANY);
            }
            takesToken();
            law.beginLine(word);
            if (ofFeet && !readsSum()) {
                return false;
            }
            law.beginCondition();
            if (token[at] == TOKEN_WHEN) {
                takesToken();
                if (!readsCondition(0)) {
                    return false;
                }
            }
            if (!takes(TOKEN_STOP)) {
                return false;
            }
            law.endLine();
            return true;
        }

        /** B and A at once: an and is put as soon as its right C has ended, an or as soon as its right A has. */
        private boolean readsCondition(int open) {
            boolean hasOr = false;
            boolean hasAnd = false;
            for (int i = 0; i < TAPE_MOST; i++) {
                if (!readsComparison(open)) {
                    return false;
                }
                if (hasAnd) {
                    law.put(TOKEN_AND);
                }
                hasAnd = token[at] == TOKEN_AND;
                if (!hasAnd) {
                    if (hasOr) {
                        law.put(TOKEN_OR);
                    }
                    hasOr = token[at] == TOKEN_OR;
                    if (!hasOr) {
                        return true;
                    }
                }
                takesToken();
            }
            return false;
        }

        private boolean readsComparison(int open) {
            int first = token[at];
            if (first == TOKEN_NOT || first == TOKEN_OPEN) {
                if (open >= OPEN_MOST) {
                    return refuses(FAULT_MANY);
                }
                takesToken();
                if (first == TOKEN_OPEN) {
                    return readsCondition(open + 1) && takes(TOKEN_SHUT);
                }
                if (!readsComparison(open + 1)) {
                    return false;
                }
                law.put(TOKEN_NOT);
                return true;
            }
            if (!readsSum()) {
                return false;
            }
            int sign = token[at];
            if (sign != TOKEN_LESS && sign != TOKEN_SAME && sign != TOKEN_MORE) {
                return refuses(FAULT_PLACE);
            }
            takesToken();
            if (!readsSum()) {
                return false;
            }
            law.put(sign);
            return true;
        }

        /** E and T at once: a times is put as soon as its right U has ended, a plus or minus as soon as its right T has. */
        private boolean readsSum() {
            int adds = TOKEN_NONE;
            int joins = TOKEN_NONE;
            for (int i = 0; i < TAPE_MOST; i++) {
                if (joins == TOKEN_PART) {
                    int number = takesNumber(1, NUMBER_MOST);
                    if (number == NONE) {
                        return false;
                    }
                    law.put(CODE_PART + number);
                } else if (!readsUnit()) {
                    return false;
                }
                if (joins == TOKEN_TIMES) {
                    law.put(TOKEN_TIMES);
                }
                joins = token[at];
                if (joins != TOKEN_TIMES && joins != TOKEN_PART) {
                    if (adds != TOKEN_NONE) {
                        law.put(adds);
                    }
                    if (joins != TOKEN_PLUS && joins != TOKEN_MINUS) {
                        return true;
                    }
                    adds = joins;
                }
                takesToken();
            }
            return false;
        }

        private boolean readsUnit() {
            if (token[at] >= TOKEN_WORD + VALUES) {
                return refuses(FAULT_PLACE);
            }
            law.put(token[at]);
            takesToken();
            return true;
        }

        boolean readsRound() {
            round.stones = 0;
            for (int i = 0; i <= STONES_MOST; i++) {
                if (token[at] == TOKEN_END) {
                    return true;
                }
                if (!opensLine(TOKEN_STONE, round.stones < STONES_MOST) || !readsStone()) {
                    return false;
                }
            }
            return false;
        }

        private boolean readsStone() {
            int parish = takesNumber(0, PARISHES - 1);
            if (parish == NONE || !takes(TOKEN_FOR)) {
                return false;
            }
            int hours = takesNumber(1, STONE_HOURS_MOST);
            if (hours == NONE) {
                return false;
            }
            int river = 0;
            if (token[at] == TOKEN_RIVER) {
                takesToken();
                river = takesNumber(1, hours);
            }
            if (river == NONE || !takes(TOKEN_FOOD)) {
                return false;
            }
            int food = takesNumber(0, STONE_FOOD_MOST);
            if (food == NONE || !takes(TOKEN_STOP)) {
                return false;
            }
            round.put(parish, hours, river, food);
            return true;
        }

        boolean readsShifts(int walkers) {
            shifts.lines = 0;
            for (int i = 0; i <= LINES_MOST; i++) {
                if (token[at] == TOKEN_END) {
                    return true;
                }
                if (!opensLine(TOKEN_WALKER, shifts.lines < LINES_MOST) || !readsShift(walkers)) {
                    return false;
                }
            }
            return false;
        }

        private boolean readsShift(int walkers) {
            int who = takesNumber(0, walkers - 1);
            if (who == NONE || !takes(TOKEN_FROM)) {
                return false;
            }
            int from = takesNumber(0, CLOCKS - 1);
            if (from == NONE || !takes(TOKEN_FOR)) {
                return false;
            }
            int hours = takesNumber(1, CLOCKS);
            if (hours == NONE || !takes(TOKEN_STOP)) {
                return false;
            }
            shifts.put(who, from, hours);
            return true;
        }

        private boolean opensLine(int word, boolean hasRoom) {
            if (token[at] == word && !hasRoom) {
                return refuses(FAULT_MANY);
            }
            return takes(word);
        }

        private boolean takes(int due) {
            if (token[at] != due) {
                return refuses(FAULT_PLACE);
            }
            takesToken();
            return true;
        }

        private int takesNumber(int least, int most) {
            int number = token[at];
            if (number >= TOKEN_WORD) {
                refuses(FAULT_PLACE);
                return NONE;
            }
            if (!within(number, least, most)) {
                refuses(FAULT_BOUNDS);
                return NONE;
            }
            takesToken();
            return number;
        }

        /** Nothing takes the end, so there is always a token to look at. */
        private void takesToken() {
            if (at < TAPE_MOST) {
                at++;
            }
        }

        private boolean refuses(int why) {
            fault = why;
            faultPlace = place[at];
            return false;
        }
    }

    /**
     * Who takes which watch. Nobody takes one of 0, 2 and one of 1, 3, so the walkers fall into two sides,
     * and within a side each watch takes its cheapest ones alone: to go through the sides is enough.
     */
    private static final class WatchPlan {
        int sum;
        final int[] taking = new int[WALKERS_MOST];
        private int walkers;
        private final int[] prices = new int[WALKERS_MOST * WATCHES];
        private final int[] cheapest = new int[WALKERS_MOST * WATCHES];
        private final int[] need = new int[WATCHES];

        void begin(int many) {
            walkers = many;
        }

        /** The walkers come in their order, so that each row stays sorted, the lesser number first. */
        void price(int walker, int watch, int itsPrice) {
            prices[walker * WATCHES + watch] = itsPrice;
            int row = watch * WALKERS_MOST;
            int place = walker;
            while (place > 0 && prices[cheapest[row + place - 1] * WATCHES + watch] > itsPrice) {
                cheapest[row + place] = cheapest[row + place - 1];
                place--;
            }
            cheapest[row + place] = walker;
        }

        boolean isFound(int least) {
            Arrays.fill(need, least);
            sum = leastSum();
            if (sum >= NEVER) {
                return false;
            }
            int left = sum;
            for (int w = 0; w < walkers; w++) {
                left -= choose(w, left);
            }
            return true;
        }

        private int leastSum() {
            int best = NEVER;
            for (int side = 0; side < 1 << walkers; side++) {
                best = Math.min(best, sumWith(0, side, best));
            }
            return best;
        }

        /** The least taking of a walker after which the others can still end at the least sum; answers its price. */
        private int choose(int walker, int left) {
            for (int t = 0; t < TAKINGS.length; t++) {
                int set = TAKINGS[t];
                int itsPrice = priceOf(walker, set);
                if (!isNeeded(set) || itsPrice > left) {
                    continue;
                }
                addNeed(set, -1);
                if (isReached(walker + 1, left - itsPrice)) {
                    taking[walker] = t;
                    return itsPrice;
                }
                addNeed(set, 1);
            }
            taking[walker] = 0;
            return 0;
        }

        /** To take a watch that has enough is never the first way: without it the taking is a lesser one. */
        private boolean isNeeded(int set) {
            for (int watch = 0; watch < WATCHES; watch++) {
                if ((set >> watch & 1) != 0 && need[watch] <= 0) {
                    return false;
                }
            }
            return true;
        }

        private int priceOf(int walker, int set) {
            int total = 0;
            for (int watch = 0; watch < WATCHES; watch++) {
                if ((set >> watch & 1) != 0) {
                    total += prices[walker * WATCHES + watch];
                }
            }
            return total;
        }

        private void addNeed(int set, int more) {
            for (int watch = 0; watch < WATCHES; watch++) {
                if ((set >> watch & 1) != 0) {
                    need[watch] += more;
                }
            }
        }

        private boolean isReached(int from, int most) {
            for (int side = 0; side < 1 << (walkers - from); side++) {
                if (sumWith(from, side << from, most + 1) <= most) {
                    return true;
                }
            }
            return false;
        }

        /** What is needed yet of the walkers behind, if a side is theirs for 0, 2 and the others' for 1, 3; at most limit. */
        private int sumWith(int from, int side, int limit) {
            int total = 0;
            for (int watch = 0; watch < WATCHES; watch++) {
                int may = (watch & 1) == 0 ? side : ~side;
                int left = need[watch];
                for (int i = 0; i < walkers && left > 0; i++) {
                    int w = cheapest[watch * WALKERS_MOST + i];
                    if (w >= from && (may >> w & 1) != 0) {
                        total += prices[w * WATCHES + watch];
                        left--;
                    }
                }
                if (left > 0 || total >= limit) {
                    return limit;
                }
            }
            return total;
        }
    }

    /** Which of some hours a walker walked, as the one who is asked then. */
    private static final class FitSearch {
        int ways;
        int first;
        private final Asked asked;
        private final Law law;
        private int hour;
        private int many;
        private int wanted;

        FitSearch(Asked itsAsked, Law itsLaw) {
            asked = itsAsked;
            law = itsLaw;
        }

        void find(int fromHour, int hours, int feetThen, int feet, int row) {
            hour = fromHour;
            many = hours;
            wanted = feetThen;
            ways = 0;
            first = NONE;
            walkFrom(0, feet, row, 0);
        }

        private void walkFrom(int i, int feet, int row, int walked) {
            if (i >= many) {
                if (feet == wanted) {
                    ways++;
                    first = first == NONE ? walked : first;
                }
                return;
            }
            asked.setFeet(feet, row);
            asked.setHour(hour + i);
            int rested = eased(feet, asked.amount(law, TOKEN_EASE));
            int worn = tired(feet, asked.amount(law, TOKEN_TIRE));
            walkFrom(i + 1, rested, 0, walked);
            walkFrom(i + 1, worn, oneMoreInRow(row), walked | 1 << i);
        }
    }
}
