/**
 * Light that cannot wait: bursts are told before they come, and are booked on
 * colours of two outgoing fibres, delayed by lines, cut, or lost.
 *
 * <p>The words in capitals (BURST, SPAN, GAP, PIECE ..) are those of the document.
 */
public final class LightBursts {
    public static final int UNKNOWN = -1, OUTSIDE = -2, STATE = -3, FULL = -4, NO = -5, NONE = -6;

    private static final int OUTS = 2, COLOURS = 6, CLASSES = 3, LINES = 3, BURSTS = 48;
    private static final int MOST_HOPS = 5, MOST_TICKS = 60, MOST_LENGTH = 60, MOST_PASS = 200;
    private static final int MOST_FROM = 20000, MOST_SPAN = 2000;

    private static final int RULES = 6;
    private static final int REACH = 0, HOP = 1, AHEAD = 2, LEAST = 3, CUTS = 4, WAY = 5;
    private static final int[] RULE_FROM = {0, 1, 0, 1, 0, 0};
    private static final int[] RULE_TO = {5, 20, 20, 60, 1, 1};
    private static final int[] RULE_AT_FIRST = {5, 4, 8, 3, 1, 1};

    /** What is known of a BURST, numbered as burst() asks for it. */
    private static final int FACTS = 11;
    private static final int OUT = 0, COLOUR = 1, CLASS = 2, HOPS = 3, TICKS = 4, COMES = 5;
    private static final int FATE = 6, BOOKED_ON = 7, BOOKED_FROM = 8, BOOKED_TICKS = 9, BY_LINE = 10;

    private static final int FATES = 5;
    private static final int SENT = 0, DELAYED = 1, CUT = 2, LOST = 3, TAKEN_BACK = 4;

    /** What no refusal equals: the arguments of a call are as told. */
    private static final int FINE = 0;

    private final Placer placer = new Placer();
    private final Book book = placer.book;
    private final Track track = placer.track;

    private final Book firstImage = new Book();
    private final Book secondImage = new Book();
    private int keptImages = 0;

    public LightBursts() {
    }

    // ---- 1 rules

    public int rule(int what, int n) {
        if (!isBelow(what, RULES) || n < RULE_FROM[what] || n > RULE_TO[what]) {
            return OUTSIDE;
        }
        int before = book.rules[what];
        book.rules[what] = n;
        return before;
    }

    public int line(int line, int length) {
        if (!isBelow(line, LINES)) {
            return UNKNOWN;
        }
        if (!isWithin(length, 0, MOST_LENGTH)) {
            return OUTSIDE;
        }
        book.showLine(line, track);
        if (track.lastEnd() > book.now) {
            return NO;
        }
        int before = book.lengths[line];
        book.lengths[line] = length;
        return before;
    }

    public int pass(int ticks) {
        if (!isWithin(ticks, 1, MOST_PASS)) {
            return OUTSIDE;
        }
        book.now += ticks;
        return book.now;
    }

    // ---- 2 bursts

    public int tell(int out, int colour, int kind, int hops, int ticks) {
        int refusal = refusalOfBurst(out, colour, kind, hops, ticks);
        if (refusal != FINE) {
            return refusal;
        }
        int burst = book.told;
        if (burst >= BURSTS) {
            return FULL;
        }
        placer.place(out, colour, book.comingTick(kind, hops), ticks);
        book.told = burst + 1;
        book.setFact(burst, CLASS, kind);
        book.setFact(burst, HOPS, hops);
        placer.writeTo(burst);
        return burst;
    }

    public int would(int out, int colour, int kind, int hops, int ticks) {
        int refusal = refusalOfBurst(out, colour, kind, hops, ticks);
        if (refusal != FINE) {
            return refusal;
        }
        placer.place(out, colour, book.comingTick(kind, hops), ticks);
        return placer.fate;
    }

    public int back(int burst) {
        if (!isBelow(burst, book.told)) {
            return UNKNOWN;
        }
        if (book.fact(burst, COMES) <= book.now) {
            return STATE;
        }
        if (book.fact(burst, FATE) == TAKEN_BACK) {
            return NO;
        }
        int ticks = book.fact(burst, BOOKED_TICKS);
        book.takeBack(burst);
        return ticks;
    }

    public int burst(int burst, int what) {
        if (!isBelow(burst, book.told)) {
            return UNKNOWN;
        }
        return isBelow(what, FACTS) ? book.fact(burst, what) : OUTSIDE;
    }

    // ---- 3 what is booked

    public int booking(int out, int colour, int i, int what) {
        if (!isColour(out, colour)) {
            return UNKNOWN;
        }
        book.showColour(out, colour, track);
        return ofBooking(i, what);
    }

    public int held(int line, int i, int what) {
        if (!isBelow(line, LINES)) {
            return UNKNOWN;
        }
        book.showLine(line, track);
        return ofBooking(i, what);
    }

    public int busy(int out, int colour, int from, int n) {
        if (!isColour(out, colour)) {
            return UNKNOWN;
        }
        if (!isSpan(from, n)) {
            return OUTSIDE;
        }
        book.showColour(out, colour, track);
        return track.bookedTicks(from, from + n);
    }

    public int free(int out, int from, int n) {
        if (!isBelow(out, OUTS)) {
            return UNKNOWN;
        }
        if (!isSpan(from, n)) {
            return OUTSIDE;
        }
        int set = 0;
        for (int colour = 0; colour < COLOURS; colour++) {
            book.showColour(out, colour, track);
            if (track.isFree(from, from + n, true)) {
                set |= 1 << colour;
            }
        }
        return set;
    }

    public int next(int out, int colour, int from, int n) {
        if (!isColour(out, colour)) {
            return UNKNOWN;
        }
        if (!isSpan(from, n)) {
            return OUTSIDE;
        }
        book.showColour(out, colour, track);
        return track.firstFree(from, n);
    }

    public int hole(int out, int colour, int i, int what) {
        if (!isColour(out, colour)) {
            return UNKNOWN;
        }
        if (!isBelow(what, 2)) {
            return OUTSIDE;
        }
        book.showColour(out, colour, track);
        int closing = track.closingOfVoid(i, book.now);
        if (closing == NONE) {
            return NONE;
        }
        int from = track.voidBefore(closing, book.now);
        return what == 0 ? from : track.begin(closing) - from;
    }

    public int tally(int kind, int what) {
        if (!isBelow(kind, CLASSES)) {
            return UNKNOWN;
        }
        switch (what) {
            case 0:
                return book.burstsOfClass(kind);
            case 1:
                return book.sumOfClass(kind, TICKS);
            case 2:
                return book.sumOfClass(kind, BOOKED_TICKS);
            case 3:
                return book.lostOfClass(kind);
            case 4:
            case 5:
                return partLost(kind, what == 4);
            default:
                return OUTSIDE;
        }
    }

    public int count(int what) {
        if (isWithin(what, 2, 1 + FATES)) {
            return book.burstsOfFate(what - 2);
        }
        if (isWithin(what, 10, 9 + RULES)) {
            return book.ruleNow(what - 10);
        }
        if (isWithin(what, 20, 19 + LINES)) {
            return book.lengthNow(what - 20);
        }
        switch (what) {
            case 0:
                return book.now;
            case 1:
                return book.told;
            case 7:
                return book.burstsWith(BOOKED_ON);
            case 8:
                return book.burstsWith(BY_LINE);
            case 9:
                return keptImages;
            default:
                return OUTSIDE;
        }
    }

    // ---- 4 images

    public int image(int k) {
        if (!isBelow(k, 2)) {
            return OUTSIDE;
        }
        imageOf(k).copyFrom(book);
        keptImages |= 1 << k;
        return 1;
    }

    public int restore(int k) {
        if (!isBelow(k, 2)) {
            return OUTSIDE;
        }
        if ((keptImages & 1 << k) == 0) {
            return STATE;
        }
        book.copyFrom(imageOf(k));
        return 1;
    }

    // ---- what the calls share

    private Book imageOf(int k) {
        return k == 0 ? firstImage : secondImage;
    }

    /** Of the i-th BOOKING of the track that is shown, what booking() and held() ask for. */
    private int ofBooking(int i, int what) {
        switch (what) {
            case 0:
                return track.begin(i);
            case 1:
                return track.ticks(i);
            case 2:
                return track.burstOf(i);
            default:
                return OUTSIDE;
        }
    }

    /** The TICKS of a CLASS that are not BOOKED, by all its TICKS: one number of that fraction. */
    private int partLost(int kind, boolean upper) {
        int all = book.sumOfClass(kind, TICKS);
        int lost = all - book.sumOfClass(kind, BOOKED_TICKS);
        int divisor = commonDivisor(all, lost);
        if (all == 0 || divisor == 0) {
            return NONE;
        }
        return (upper ? lost : all) / divisor;
    }

    private static int commonDivisor(int a, int b) {
        int greater = a;
        int lesser = b;
        // Sixty-four steps are more than Euclid needs for any two ints.
        for (int step = 0; step < 64 && lesser != 0; step++) {
            int rest = greater % lesser;
            greater = lesser;
            lesser = rest;
        }
        return greater;
    }

    private static int refusalOfBurst(int out, int colour, int kind, int hops, int ticks) {
        if (!isColour(out, colour) || !isBelow(kind, CLASSES)) {
            return UNKNOWN;
        }
        if (!isWithin(hops, 1, MOST_HOPS) || !isWithin(ticks, 1, MOST_TICKS)) {
            return OUTSIDE;
        }
        return FINE;
    }

    private static boolean isColour(int out, int colour) {
        return isBelow(out, OUTS) && isBelow(colour, COLOURS);
    }

    private static boolean isSpan(int from, int n) {
        return isWithin(from, 0, MOST_FROM) && isWithin(n, 1, MOST_SPAN);
    }

    private static boolean isBelow(int n, int bound) {
        return n >= 0 && n < bound;
    }

    private static boolean isWithin(int n, int least, int most) {
        return n >= least && n <= most;
    }

    /** All that an IMAGE keeps: NOW, the RULES, the LINES, and the BURSTS with their BOOKINGS. */
    private static final class Book {
        private int now = 0;
        private int told = 0;
        private final int[] rules = RULE_AT_FIRST.clone();
        private final int[] lengths = new int[LINES];
        private final int[] facts = new int[BURSTS * FACTS];

        private void copyFrom(Book other) {
            now = other.now;
            told = other.told;
            System.arraycopy(other.rules, 0, rules, 0, RULES);
            System.arraycopy(other.lengths, 0, lengths, 0, LINES);
            System.arraycopy(other.facts, 0, facts, 0, BURSTS * FACTS);
        }

        private int ruleNow(int what) {
            return isBelow(what, RULES) ? rules[what] : NONE;
        }

        private int lengthNow(int line) {
            return isBelow(line, LINES) ? lengths[line] : NONE;
        }

        private int comingTick(int kind, int hops) {
            return now + ruleNow(HOP) * hops + ruleNow(AHEAD) * kind;
        }

        private int fact(int burst, int what) {
            int at = burst * FACTS + what;
            return isBelow(at, BURSTS * FACTS) ? facts[at] : NONE;
        }

        private void setFact(int burst, int what, int n) {
            int at = burst * FACTS + what;
            if (isBelow(at, BURSTS * FACTS)) {
                facts[at] = n;
            }
        }

        private void takeBack(int burst) {
            setFact(burst, FATE, TAKEN_BACK);
            setFact(burst, BOOKED_ON, NONE);
            setFact(burst, BOOKED_FROM, NONE);
            setFact(burst, BOOKED_TICKS, 0);
            setFact(burst, BY_LINE, NONE);
        }

        private void showColour(int out, int colour, Track track) {
            track.clear();
            for (int burst = 0; burst < told; burst++) {
                if (fact(burst, BOOKED_ON) == colour && fact(burst, OUT) == out) {
                    track.add(burst, fact(burst, BOOKED_FROM), fact(burst, BOOKED_TICKS));
                }
            }
        }

        /** A LINE holds a BURST while it comes, not while it goes out again. */
        private void showLine(int line, Track track) {
            track.clear();
            for (int burst = 0; burst < told; burst++) {
                if (fact(burst, BY_LINE) == line) {
                    track.add(burst, fact(burst, COMES), fact(burst, TICKS));
                }
            }
        }

        private boolean isTallied(int burst, int kind) {
            return fact(burst, CLASS) == kind && fact(burst, FATE) != TAKEN_BACK;
        }

        private int burstsOfClass(int kind) {
            int n = 0;
            for (int burst = 0; burst < told; burst++) {
                if (isTallied(burst, kind)) {
                    n++;
                }
            }
            return n;
        }

        private int sumOfClass(int kind, int what) {
            int sum = 0;
            for (int burst = 0; burst < told; burst++) {
                if (isTallied(burst, kind)) {
                    sum += fact(burst, what);
                }
            }
            return sum;
        }

        private int lostOfClass(int kind) {
            int n = 0;
            for (int burst = 0; burst < told; burst++) {
                if (fact(burst, CLASS) == kind && fact(burst, FATE) == LOST) {
                    n++;
                }
            }
            return n;
        }

        private int burstsOfFate(int fate) {
            return burstsWhere(FATE, fate);
        }

        private int burstsWith(int what) {
            return told - burstsWhere(what, NONE);
        }

        private int burstsWhere(int what, int n) {
            int found = 0;
            for (int burst = 0; burst < told; burst++) {
                if (fact(burst, what) == n) {
                    found++;
                }
            }
            return found;
        }
    }

    /**
     * The BOOKINGS on one COLOUR of one OUT, or on one LINE, by rising TICKS: a view that
     * is filled anew for each look, so that only the Book has to be kept in images.
     */
    private static final class Track {
        private int size = 0;
        private final int[] bursts = new int[BURSTS];
        private final int[] begins = new int[BURSTS];
        private final int[] ends = new int[BURSTS];

        private void clear() {
            size = 0;
        }

        private void add(int burst, int begin, int ticks) {
            if (!isBelow(size, BURSTS)) {
                return;
            }
            int at = size;
            for (; at > 0 && begins[at - 1] > begin; at--) {
                bursts[at] = bursts[at - 1];
                begins[at] = begins[at - 1];
                ends[at] = ends[at - 1];
            }
            bursts[at] = burst;
            begins[at] = begin;
            ends[at] = begin + ticks;
            size++;
        }

        private boolean has(int i) {
            return isBelow(i, size);
        }

        private int begin(int i) {
            return has(i) ? begins[i] : NONE;
        }

        private int ticks(int i) {
            return has(i) ? ends[i] - begins[i] : NONE;
        }

        private int burstOf(int i) {
            return has(i) ? bursts[i] : NONE;
        }

        /** Where the last BOOKING ENDS: NONE, which is below every TICK, if there is no BOOKING. */
        private int lastEnd() {
            return has(size - 1) ? ends[size - 1] : NONE;
        }

        /** The greatest of NOW and all ENDS that are no greater than a TICK. */
        private int lastEndUpTo(int tick, int now) {
            int last = now;
            for (int i = 0; i < size; i++) {
                if (ends[i] <= tick) {
                    last = Math.max(last, ends[i]);
                }
            }
            return last;
        }

        /**
         * How many TICKS from one on, up to an end, are free; where voids may not be
         * filled, none that lie ahead of the END of any BOOKING.
         */
        private int room(int from, int end, boolean inVoids) {
            int until = end;
            for (int i = 0; i < size; i++) {
                if (ends[i] > from) {
                    until = Math.min(until, inVoids ? begins[i] : from);
                }
            }
            return Math.max(0, until - from);
        }

        private boolean isFree(int from, int end, boolean inVoids) {
            return room(from, end, inVoids) == end - from;
        }

        /** Where the PIECE of a SPAN begins: the longest one begins with the SPAN or at an END. */
        private int pieceBegin(int from, int end, boolean inVoids) {
            int best = from;
            int most = room(from, end, inVoids);
            for (int i = 0; i < size; i++) {
                int ticks = ends[i] > from ? room(ends[i], end, inVoids) : 0;
                if (ticks > most) {
                    best = ends[i];
                    most = ticks;
                }
            }
            return best;
        }

        private int bookedTicks(int from, int end) {
            int sum = 0;
            for (int i = 0; i < size; i++) {
                sum += Math.max(0, Math.min(end, ends[i]) - Math.max(from, begins[i]));
            }
            return sum;
        }

        private int firstFree(int from, int n) {
            int first = from;
            for (int i = 0; i < size; i++) {
                if (begins[i] < first + n && ends[i] > first) {
                    first = ends[i];
                }
            }
            return first;
        }

        /** Where the VOID before the i-th BOOKING begins, or would, if it had any TICK. */
        private int voidBefore(int i, int now) {
            return has(i - 1) ? Math.max(now, ends[i - 1]) : now;
        }

        /** Which BOOKING the n-th VOID lies before. */
        private int closingOfVoid(int n, int now) {
            int seen = 0;
            for (int i = 0; i < size; i++) {
                if (begins[i] > voidBefore(i, now)) {
                    if (seen == n) {
                        return i;
                    }
                    seen++;
                }
            }
            return NONE;
        }
    }

    /** PLACES a BURST in its book, as NOW, RULES and BOOKINGS are there, and books nothing until it is asked to. */
    private static final class Placer {
        private final Book book = new Book();
        private final Track track = new Track();

        private int out = 0;
        private int colour = 0;
        private int comes = 0;
        private int ticks = 0;

        private int fate = LOST;
        private int bookedOn = NONE;
        private int bookedFrom = NONE;
        private int bookedTicks = 0;
        private int byLine = NONE;

        private void place(int out, int colour, int comes, int ticks) {
            this.out = out;
            this.colour = colour;
            this.comes = comes;
            this.ticks = ticks;
            decide(LOST, NONE, NONE, 0, NONE);
            send();
            if (fate == LOST) {
                delay();
            }
            if (fate == LOST && book.ruleNow(CUTS) == 1) {
                cut();
            }
        }

        private void writeTo(int burst) {
            book.setFact(burst, OUT, out);
            book.setFact(burst, COLOUR, colour);
            book.setFact(burst, COMES, comes);
            book.setFact(burst, TICKS, ticks);
            book.setFact(burst, FATE, fate);
            book.setFact(burst, BOOKED_ON, bookedOn);
            book.setFact(burst, BOOKED_FROM, bookedFrom);
            book.setFact(burst, BOOKED_TICKS, bookedTicks);
            book.setFact(burst, BY_LINE, byLine);
        }

        private void decide(int fate, int on, int from, int ticks, int line) {
            this.fate = fate;
            bookedOn = on;
            bookedFrom = from;
            bookedTicks = ticks;
            byLine = line;
        }

        private void send() {
            int on = bestColour(comes);
            if (on != NONE) {
                decide(SENT, on, comes, ticks, NONE);
            }
        }

        private void delay() {
            int line = NONE;
            int on = NONE;
            int least = MOST_LENGTH + 1;
            for (int i = 0; i < LINES; i++) {
                int length = book.lengthNow(i);
                if (length > 0 && length < least && isLineFree(i)) {
                    int found = bestColour(comes + length);
                    if (found != NONE) {
                        line = i;
                        on = found;
                        least = length;
                    }
                }
            }
            if (line != NONE) {
                decide(DELAYED, on, comes + least, ticks, line);
            }
        }

        private void cut() {
            int end = comes + ticks;
            int on = NONE;
            int from = NONE;
            int most = 0;
            for (int i = 0; i < COLOURS; i++) {
                if (awayFrom(i) <= book.ruleNow(REACH)) {
                    book.showColour(out, i, track);
                    int begin = track.pieceBegin(comes, end, fillsVoids());
                    int room = track.room(begin, end, fillsVoids());
                    if (room > most || room == most && on != NONE && isNearer(i, on)) {
                        on = i;
                        from = begin;
                        most = room;
                    }
                }
            }
            if (on != NONE && most >= book.ruleNow(LEAST)) {
                decide(CUT, on, from, most, NONE);
            }
        }

        /** The COLOUR that is FREE for the SPAN from a TICK on with the least GAP, of such the NEAREST. */
        private int bestColour(int from) {
            int best = NONE;
            int leastGap = 0;
            for (int i = 0; i < COLOURS; i++) {
                if (awayFrom(i) <= book.ruleNow(REACH)) {
                    book.showColour(out, i, track);
                    if (track.isFree(from, from + ticks, fillsVoids())) {
                        int gap = from - track.lastEndUpTo(from, book.now);
                        if (best == NONE || gap < leastGap || gap == leastGap && isNearer(i, best)) {
                            best = i;
                            leastGap = gap;
                        }
                    }
                }
            }
            return best;
        }

        private boolean isLineFree(int line) {
            book.showLine(line, track);
            return track.isFree(comes, comes + ticks, true);
        }

        private boolean fillsVoids() {
            return book.ruleNow(WAY) == 1;
        }

        private int awayFrom(int other) {
            return Math.abs(other - colour);
        }

        /** Of two as far away the lesser is NEAREST: so it stays, where COLOURS rise. */
        private boolean isNearer(int one, int than) {
            return awayFrom(one) < awayFrom(than);
        }
    }
}
