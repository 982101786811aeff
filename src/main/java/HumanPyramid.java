import java.util.Arrays;

/**
 * A human pyramid: ten places in four rows, and who climbs, bears, tires and falls there in 24 moments.
 * The words in capitals are those of the document, shared/DOC.md.
 */
public final class HumanPyramid {
    public static final int NONE = -1, BAD = -2, NOT = -3, FULL = -4;

    private static final int PLACES = 10;
    private static final int GROUND_PLACES = 4;
    private static final int MOMENTS = 24;
    private static final int MOST_ACROBATS = 10;
    private static final int MOST_BYTES = 59;
    private static final int BYTES_OF_ONE = 6;
    private static final int MOST_EVENTS = 8;
    private static final int MOST_SEEN = 8;
    private static final int SHEETS = 4;
    private static final int BYTES = 0, SHORTS = 1, FORMS = 3;
    private static final int MOST_ITEMS = 60;
    private static final int SIXTEENTHS = 16;

    private static final int SNEEZE = 0, APPLAUSE = 1, KINDS = 3;
    private static final int STEADY = 0, TREMBLING = 1, CALM = 2;
    private static final int NOT_THERE = 0, THERE = 1, STANDS = 2, LIES = 3;
    private static final int NULL = 1, INDEX = 2, CAST = 3, STORE = 4, SIZE = 5;

    private static final int NOBODY = 10;
    private static final int MOST_FIGURE = 9;
    private static final int FACTS = 4;
    private static final int UNKNOWN = -1;
    private static final int SUBSETS = 256;
    private static final int LEAST_INT = 0x80000000;
    private static final long LEAST_LONG = 0x8000000000000000L;

    /** Of a PLACE above the ground the left one of the two below it; the other one is the next. */
    private static final int[] LEFT_BELOW = {0, 0, 0, 0, 0, 1, 2, 4, 5, 7};
    /** The PLACES on which a PLACE is, as bits; none on the ground. */
    private static final int[] SUPPORTS = {0, 0, 0, 0, 0x003, 0x006, 0x00C, 0x030, 0x060, 0x180};
    /** The PLACES of each row, as bits. */
    private static final int[] ROWS = {0x00F, 0x070, 0x180, 0x200};
    private static final int[] DIGEST_MOMENTS = {0, 4, 10, 17, 23};

    private final Text text;
    private final Troupe troupe;
    private final Events events;
    private final Sights sights;
    private final Show show;
    private final Plans plans;
    private final Guesses guesses;
    private final Tumbles tumbles;
    private final Events yearEvents;
    private final Show yearShow;
    private final Sheet[] sheets;
    private int faultPlace;
    private boolean showIsPlayed;
    private int latestFinding;

    public HumanPyramid() {
        text = new Text();
        troupe = new Troupe();
        events = new Events();
        sights = new Sights();
        show = new Show(true);
        plans = new Plans();
        guesses = new Guesses();
        tumbles = new Tumbles();
        yearEvents = new Events();
        yearShow = new Show(false);
        sheets = new Sheet[SHEETS];
        for (int s = 0; s < SHEETS; s++) {
            sheets[s] = new Sheet();
        }
        faultPlace = NONE;
    }

    // ---- acrobats, events

    public int type(int b) {
        if (!isWithin(b, 256)) {
            return BAD;
        }
        if (text.length >= MOST_BYTES) {
            return FULL;
        }
        text.append(b);
        castAnew();
        return text.length;
    }

    public int wipe() {
        int had = text.length;
        text.length = 0;
        castAnew();
        return had;
    }

    public int undo() {
        if (text.length == 0) {
            return NOT;
        }
        text.length--;
        castAnew();
        return text.length;
    }

    public int fault() {
        return faultPlace;
    }

    public int acrobat(int acrobat, int what) {
        if (!isWithin(acrobat, troupe.size)) {
            return BAD;
        }
        switch (what) {
            case 0: return troupe.sort[acrobat];
            case 1: return troupe.weight[acrobat];
            case 2: return troupe.strength[acrobat];
            case 3: return troupe.moment[acrobat];
            case 4: return troupe.place[acrobat];
            default: return BAD;
        }
    }

    public int event(int kind, int moment, int number) {
        if (!isWithin(kind, KINDS) || !isWithin(moment, MOMENTS) || !isWithin(number, MOST_ACROBATS)) {
            return BAD;
        }
        if (events.size >= MOST_EVENTS) {
            return FULL;
        }
        events.add(kind, moment, number);
        forgetAnswers();
        return events.size;
    }

    public int back() {
        if (events.size == 0) {
            return NOT;
        }
        events.size--;
        forgetAnswers();
        return events.size;
    }

    public int read(int s) {
        if (!isWithin(s, SHEETS)) {
            return BAD;
        }
        Sheet from = sheets[s];
        if (from.isLost) {
            return finding(NULL);
        }
        int came = 0;
        for (int i = 0; i + 2 < from.size; i += 3) {
            if (event(from.item(i), from.item(i + 1), from.item(i + 2)) < 0) {
                break;
            }
            came++;
        }
        return came;
    }

    // ---- moments

    public int at(int moment, int acrobat, int what) {
        if (!isWithin(moment, MOMENTS) || !isWithin(acrobat, troupe.size) || !isWithin(what, FACTS)) {
            return BAD;
        }
        return played().diary[moment][acrobat * FACTS + what];
    }

    public int stands(int moment, int place) {
        if (!isWithin(moment, MOMENTS) || !isWithin(place, PLACES)) {
            return BAD;
        }
        return played().whoIsAt(troupe, moment, place);
    }

    public int tower(int moment, int what) {
        if (!isWithin(moment, MOMENTS) || !isWithin(what, 2)) {
            return BAD;
        }
        int taken = played().taken[moment];
        return what == 0 ? Integer.bitCount(taken) : height(taken);
    }

    public int sum(int what) {
        if (!isWithin(what, 2)) {
            return BAD;
        }
        return what == 0 ? played().standing : played().falls;
    }

    public int top(int what) {
        if (!isWithin(what, 2)) {
            return BAD;
        }
        int[] taken = played().taken;
        int first = NONE;
        int times = 0;
        for (int m = 0; m < MOMENTS; m++) {
            if (hasBit(taken[m], PLACES - 1)) {
                first = first == NONE ? m : first;
                times++;
            }
        }
        return what == 0 ? first : times;
    }

    public int most(int what) {
        if (!isWithin(what, 2)) {
            return BAD;
        }
        int[] taken = played().taken;
        int first = 0;
        for (int m = 1; m < MOMENTS; m++) {
            if (Integer.bitCount(taken[m]) > Integer.bitCount(taken[first])) {
                first = m;
            }
        }
        return what == 0 ? Integer.bitCount(taken[first]) : first;
    }

    public int clumsy() {
        int[] fell = played().fell;
        int who = NONE;
        int often = 0;
        for (int a = 0; a < troupe.size; a++) {
            if (fell[a] > often) {
                who = a;
                often = fell[a];
            }
        }
        return who;
    }

    public int down() {
        int[] taken = played().taken;
        int ever = 0;
        for (int m = 0; m < MOMENTS; m++) {
            ever |= taken[m];
        }
        int bits = 0;
        for (int a = 0; a < troupe.size; a++) {
            if (!hasBit(ever, troupe.place[a])) {
                bits |= 1 << a;
            }
        }
        return bits;
    }

    // ---- plans

    public int swap(int what) {
        if (!isWithin(what, 3)) {
            return BAD;
        }
        return plans.bestSwap(troupe, events).part(what);
    }

    public int come(int acrobat, int what) {
        if (!isWithin(acrobat, troupe.size) || !isWithin(what, 2)) {
            return BAD;
        }
        Best best = plans.bestMoment(troupe, events, acrobat);
        return what == 0 ? best.first : best.amount;
    }

    public int train(int what) {
        if (!isWithin(what, 2)) {
            return BAD;
        }
        Best best = plans.bestTraining(troupe, events);
        return what == 0 ? best.first : best.amount;
    }

    public int spare(int i) {
        if (i < NONE || i > 1) {
            return BAD;
        }
        Best best = tumbles.fewestToSpare(troupe, events);
        return i == NONE ? best.amount : best.part(i);
    }

    // ---- seen, chance, years

    public int seen(int moment, int place, int acrobat) {
        if (!isWithin(moment, MOMENTS) || !isWithin(place, PLACES) || !isWithin(acrobat, NOBODY + 1)) {
            return BAD;
        }
        if (sights.size >= MOST_SEEN) {
            return FULL;
        }
        sights.add(moment, place, acrobat);
        guesses.forgetAnswers();
        return sights.size;
    }

    public int forget() {
        int had = sights.size;
        sights.size = 0;
        guesses.forgetAnswers();
        return had;
    }

    public int never() {
        return guesses.neverBits(troupe, events, sights);
    }

    public int was(int acrobat, int what) {
        if (!isWithin(acrobat, troupe.size) || !isWithin(what, 2)) {
            return BAD;
        }
        if (what == 0) {
            guesses.tryStrengths(troupe, events, sights, acrobat);
            return guesses.strengths[acrobat];
        }
        guesses.tryWeights(troupe, events, sights, acrobat);
        return guesses.weights[acrobat];
    }

    public int ask(int acrobat) {
        if (!isWithin(acrobat, troupe.size)) {
            return BAD;
        }
        guesses.tryStrengths(troupe, events, sights, acrobat);
        return guesses.asks[acrobat];
    }

    public long chance(int c, int moment, int what) {
        if (!isWithin(c, SIXTEENTHS + 1) || !isWithin(moment, MOMENTS) || !isWithin(what, 2)) {
            return LEAST_LONG - BAD;
        }
        long above = tumbles.chanceAbove(troupe, events, c, moment);
        long below = 1L << (4 * events.size);
        // BELOW is a power of 16, so a common factor can only be a power of 2, of 32 bits at most
        for (int i = 0; i < 4 * MOST_EVENTS && above % 2 == 0 && below % 2 == 0; i++) {
            above /= 2;
            below /= 2;
        }
        return what == 0 ? above : below;
    }

    public int years(int seed, int n, int what) {
        if (!isWithin(n, MOST_EVENTS + 1) || !isWithin(what, 2)) {
            return BAD;
        }
        yearEvents.drawByLot(seed, n, troupe.size);
        yearShow.play(troupe, yearEvents, yearEvents.allBits(), false);
        return what == 0 ? yearShow.standing : yearShow.falls;
    }

    // ---- sheets

    public int sheet(int s, int form, int n) {
        if (!isWithin(s, SHEETS) || !isWithin(form, FORMS) || n > MOST_ITEMS) {
            return BAD;
        }
        if (n < 0) {
            return finding(SIZE);
        }
        sheets[s].renew(form, n);
        return n;
    }

    public int lose(int s) {
        if (!isWithin(s, SHEETS)) {
            return BAD;
        }
        if (sheets[s].isLost) {
            return finding(NULL);
        }
        sheets[s].isLost = true;
        return sheets[s].size;
    }

    public int put(int s, int form, int i, int v) {
        if (!isWithin(s, SHEETS) || !isWithin(form, FORMS)) {
            return BAD;
        }
        int fails = sheets[s].whatFails(form, i);
        if (fails != 0) {
            return finding(fails);
        }
        sheets[s].setItem(i, v);
        return 1;
    }

    public int get(int s, int form, int i) {
        if (!isWithin(s, SHEETS) || !isWithin(form, FORMS)) {
            return LEAST_INT;
        }
        int fails = sheets[s].whatFails(form, i);
        if (fails != 0) {
            latestFinding = fails;
            return LEAST_INT;
        }
        return sheets[s].item(i);
    }

    public int copy(int s, int i, int t, int j, int n) {
        if (!isWithin(s, SHEETS) || !isWithin(t, SHEETS)) {
            return BAD;
        }
        Sheet from = sheets[s];
        Sheet to = sheets[t];
        if (from.isLost || to.isLost) {
            return finding(NULL);
        }
        if (from.form != to.form) {
            return finding(STORE);
        }
        if (!from.hasRange(i, n) || !to.hasRange(j, n)) {
            return finding(INDEX);
        }
        System.arraycopy(from.items, i, to.items, j, n);
        return 1;
    }

    public int write(int moment, int s) {
        if (!isWithin(moment, MOMENTS) || !isWithin(s, SHEETS)) {
            return BAD;
        }
        Sheet to = sheets[s];
        if (to.isLost) {
            return finding(NULL);
        }
        int n = Math.min(PLACES, to.size);
        for (int p = 0; p < n; p++) {
            to.setItem(p, stands(moment, p));
        }
        return n;
    }

    public int count(int what) {
        switch (what) {
            case 0: return troupe.size;
            case 1: return text.length;
            case 2: return events.size;
            case 3: return sum(0);
            case 4: return sum(1);
            case 5: return tower(MOMENTS - 1, 0);
            case 6: return tower(MOMENTS - 1, 1);
            case 7: return sights.size;
            case 8: return latestFinding;
            default: return BAD;
        }
    }

    public long digest() {
        long h = 17;
        for (int what = 0; what < 8; what++) {
            h = mixed(h, count(what));
        }
        h = mixed(h, fault());
        for (int m = 0; m < MOMENTS; m++) {
            h = mixed(h, tower(m, 0));
            h = mixed(h, tower(m, 1));
            h = mixed(h, stands(m, 0));
            h = mixed(h, stands(m, 5));
        }
        for (int a = 0; a < troupe.size; a++) {
            h = mixedWithAcrobat(h, a);
        }
        for (int m = 5; m <= 15; m += 10) {
            h = mixed(h, chance(5, m, 0));
            h = mixed(h, chance(5, m, 1));
        }
        h = mixed(h, top(0));
        h = mixed(h, top(1));
        h = mixed(h, most(0));
        h = mixed(h, most(1));
        h = mixed(h, clumsy());
        h = mixed(h, down());
        for (int what = 0; what < 3; what++) {
            h = mixed(h, swap(what));
        }
        h = mixed(h, train(0));
        h = mixed(h, train(1));
        h = mixed(h, spare(NONE));
        h = mixed(h, spare(0));
        h = mixed(h, never());
        h = mixed(h, years(7, 6, 0));
        return mixed(h, years(7, 6, 1));
    }

    // ---- what the calls share

    private long mixedWithAcrobat(long before, int a) {
        long h = before;
        for (int what = 0; what < 5; what++) {
            h = mixed(h, acrobat(a, what));
        }
        for (int m : DIGEST_MOMENTS) {
            for (int what = 0; what < FACTS; what++) {
                h = mixed(h, at(m, a, what));
            }
        }
        h = mixed(h, come(a, 0));
        h = mixed(h, come(a, 1));
        h = mixed(h, was(a, 0));
        h = mixed(h, was(a, 1));
        return mixed(h, ask(a));
    }

    private static long mixed(long h, long x) {
        return 31 * h + x;
    }

    private static boolean isWithin(int i, int bound) {
        return i >= 0 && i < bound;
    }

    private static boolean hasBit(int bits, int i) {
        return (bits >> i & 1) != 0;
    }

    private static int height(int taken) {
        int rows = 0;
        for (int row : ROWS) {
            if ((taken & row) != 0) {
                rows++;
            }
        }
        return rows;
    }

    private int finding(int number) {
        latestFinding = number;
        return -10 - number;
    }

    private void castAnew() {
        faultPlace = text.castInto(troupe);
        forgetAnswers();
    }

    /** What was worked out holds only for the ACROBATS and EVENTS of its time. */
    private void forgetAnswers() {
        showIsPlayed = false;
        plans.forgetAnswers();
        guesses.forgetAnswers();
        tumbles.forgetAnswers();
    }

    private Show played() {
        if (!showIsPlayed) {
            show.play(troupe, events, events.allBits(), false);
            showIsPlayed = true;
        }
        return show;
    }

    /** The ACROBATS, each with one PLACE, and each PLACE with one of them or nobody. */
    private static final class Troupe {
        final int[] sort = new int[MOST_ACROBATS];
        final int[] weight = new int[MOST_ACROBATS];
        final int[] strength = new int[MOST_ACROBATS];
        final int[] moment = new int[MOST_ACROBATS];
        final int[] place = new int[MOST_ACROBATS];
        final int[] holder = new int[PLACES];
        int size;

        Troupe() {
            Arrays.fill(holder, NONE);
        }

        void dismiss() {
            size = 0;
            Arrays.fill(holder, NONE);
        }

        void become(Troupe other) {
            size = other.size;
            System.arraycopy(other.sort, 0, sort, 0, MOST_ACROBATS);
            System.arraycopy(other.weight, 0, weight, 0, MOST_ACROBATS);
            System.arraycopy(other.strength, 0, strength, 0, MOST_ACROBATS);
            System.arraycopy(other.moment, 0, moment, 0, MOST_ACROBATS);
            System.arraycopy(other.place, 0, place, 0, MOST_ACROBATS);
            System.arraycopy(other.holder, 0, holder, 0, PLACES);
        }

        void seat(int a, int p) {
            if (isWithin(a, MOST_ACROBATS) && isWithin(p, PLACES)) {
                place[a] = p;
                holder[p] = a;
            }
        }

        void exchange(int a, int b) {
            if (isWithin(a, MOST_ACROBATS) && isWithin(b, MOST_ACROBATS)) {
                int p = place[a];
                seat(a, place[b]);
                seat(b, p);
            }
        }
    }

    /** The bytes told, and how ACROBATS are read from them. */
    private static final class Text {
        final int[] bytes = new int[MOST_BYTES];
        int length;

        void append(int b) {
            if (length < MOST_BYTES) {
                bytes[length] = b;
                length++;
            }
        }

        /** The FAULT, or NONE; with a FAULT there are no ACROBATS. */
        int castInto(Troupe troupe) {
            troupe.dismiss();
            int n = Math.min(length, MOST_BYTES);
            for (int i = 0; i < n; i++) {
                if (!takes(troupe, i / BYTES_OF_ONE, i % BYTES_OF_ONE, bytes[i])) {
                    troupe.dismiss();
                    return i;
                }
            }
            boolean isEnded = n == 0 || n % BYTES_OF_ONE == BYTES_OF_ONE - 1;
            if (!isEnded) {
                troupe.dismiss();
                return n;
            }
            return NONE;
        }

        /** Puts the byte where it belongs; false if the text cannot go on with it. */
        private static boolean takes(Troupe troupe, int a, int part, int b) {
            if (!isWithin(a, MOST_ACROBATS)) {
                return false;
            }
            switch (part) {
                case 0:
                    troupe.sort[a] = b == 's' ? STEADY : b == 't' ? TREMBLING : CALM;
                    return b == 's' || b == 't' || b == 'c';
                case 1:
                    troupe.weight[a] = b - '0';
                    return b >= '1' && b <= '9';
                case 2:
                    troupe.strength[a] = b - '0';
                    return b >= '1' && b <= '9';
                case 3:
                    troupe.moment[a] = b - 'a';
                    return b >= 'a' && b <= 'x';
                case 4:
                    return takesPlace(troupe, a, b - '0');
                default:
                    return b == ';';
            }
        }

        private static boolean takesPlace(Troupe troupe, int a, int p) {
            if (!isWithin(p, PLACES) || troupe.holder[p] != NONE) {
                return false;
            }
            troupe.seat(a, p);
            troupe.size = a + 1;
            return true;
        }
    }

    /** EVENTS in the order told. */
    private static final class Events {
        final int[] kind = new int[MOST_EVENTS];
        final int[] moment = new int[MOST_EVENTS];
        final int[] number = new int[MOST_EVENTS];
        int size;

        void add(int k, int m, int who) {
            if (size < MOST_EVENTS) {
                kind[size] = k;
                moment[size] = m;
                number[size] = who;
                size++;
            }
        }

        int allBits() {
            return (1 << size) - 1;
        }

        /** n EVENTS by LOTS; none where there are no ACROBATS to draw from. */
        void drawByLot(int seed, int n, int acrobats) {
            size = 0;
            if (acrobats <= 0) {
                return;
            }
            int next = seed;
            for (int i = 0; i < n; i++) {
                next = following(next);
                int k = (next >>> 16) % KINDS;
                next = following(next);
                int m = (next >>> 16) % MOMENTS;
                next = following(next);
                add(k, m, (next >>> 16) % acrobats);
            }
        }

        private static int following(int seed) {
            return 1103515245 * seed + 12345;
        }
    }

    /** What was SEEN, to hold against a Show. */
    private static final class Sights {
        final int[] moment = new int[MOST_SEEN];
        final int[] place = new int[MOST_SEEN];
        final int[] who = new int[MOST_SEEN];
        int size;

        void add(int m, int p, int a) {
            if (size < MOST_SEEN) {
                moment[size] = m;
                place[size] = p;
                who[size] = a == NOBODY ? NONE : a;
                size++;
            }
        }

        boolean fit(Show show, Troupe troupe) {
            for (int i = 0; i < size; i++) {
                if (show.whoIsAt(troupe, moment[i], place[i]) != who[i]) {
                    return false;
                }
            }
            return true;
        }
    }

    /** One run of all MOMENTS. */
    private static final class Show {
        /** The PLACES taken behind each MOMENT, as bits. */
        final int[] taken = new int[MOMENTS];
        /** What at() tells, behind each MOMENT; no rows where nobody will ask. */
        final int[][] diary;
        final int[] tired = new int[MOST_ACROBATS];
        final int[] fell = new int[MOST_ACROBATS];
        final int[] lastLying = new int[MOST_ACROBATS];
        /** By PLACE, in eighths. */
        final int[] load = new int[PLACES];
        int takenNow;
        /** Of the MOMENT that is played: who SNEEZES, who is HELD (as bits), and by how much APPLAUSE helps. */
        int sneezers;
        int held;
        int relief;
        int standing;
        int falls;
        int firstFall;

        Show(boolean keepsDiary) {
            diary = new int[keepsDiary ? MOMENTS : 0][MOST_ACROBATS * FACTS];
        }

        /** Only the chosen EVENTS (bits) are; stopsAtFall: only firstFall is asked for. */
        void play(Troupe troupe, Events events, int chosen, boolean stopsAtFall) {
            begin();
            for (int m = 0; m < MOMENTS; m++) {
                gather(events, chosen, m);
                topple(troupe, sneezing(troupe), m);
                applaud(troupe);
                climb(troupe, m);
                bear(troupe);
                topple(troupe, tire(troupe), m);
                if (stopsAtFall && falls > 0) {
                    return;
                }
                taken[m] = takenNow;
                standing += Integer.bitCount(takenNow);
                if (m < diary.length) {
                    keepFacts(troupe, m);
                }
            }
        }

        private void begin() {
            Arrays.fill(tired, 0);
            Arrays.fill(fell, 0);
            Arrays.fill(lastLying, -1);
            takenNow = 0;
            standing = 0;
            falls = 0;
            firstFall = MOMENTS;
        }

        /**
         * The EVENTS of a MOMENT, taken together: in whatever order they were told, the same ones FALL,
         * who are not TIRED any more, and APPLAUSE is for the others.
         */
        private void gather(Events events, int chosen, int m) {
            sneezers = 0;
            held = 0;
            relief = 0;
            for (int i = 0; i < events.size; i++) {
                if (events.moment[i] != m || !hasBit(chosen, i)) {
                    continue;
                }
                switch (events.kind[i]) {
                    case SNEEZE:
                        sneezers |= 1 << events.number[i];
                        break;
                    case APPLAUSE:
                        relief += 3;
                        break;
                    default:
                        held |= 1 << events.number[i];
                        break;
                }
            }
        }

        /** The PLACES of those who SNEEZE, as bits. */
        private int sneezing(Troupe troupe) {
            int places = 0;
            for (int a = 0; sneezers != 0 && a < troupe.size; a++) {
                if (hasBit(sneezers, a)) {
                    places |= 1 << troupe.place[a];
                }
            }
            return places;
        }

        private void applaud(Troupe troupe) {
            for (int a = 0; relief > 0 && a < troupe.size; a++) {
                // who does not stand is not TIRED, so nobody needs to be left out
                tired[a] = Math.max(0, tired[a] - relief);
            }
        }

        private void climb(Troupe troupe, int m) {
            for (int a = 0; a < troupe.size; a++) {
                int p = troupe.place[a];
                boolean canClimb = m >= troupe.moment[a] && m > lastLying[a] && !hasBit(held, a);
                if (canClimb && isWithin(p, PLACES) && (takenNow & SUPPORTS[p]) == SUPPORTS[p]) {
                    takenNow |= 1 << p;
                }
            }
        }

        /** From the top down, since what one passes on is what one bears and weighs. */
        private void bear(Troupe troupe) {
            Arrays.fill(load, 0);
            for (int p = PLACES - 1; p >= GROUND_PLACES; p--) {
                int a = troupe.holder[p];
                if (hasBit(takenNow, p) && isWithin(a, troupe.size)) {
                    int half = (8 * troupe.weight[a] + load[p]) / 2;
                    load[LEFT_BELOW[p]] += half;
                    load[LEFT_BELOW[p] + 1] += half;
                }
            }
        }

        /** The PLACES of those who give way, as bits. */
        private int tire(Troupe troupe) {
            int giving = 0;
            for (int a = 0; a < troupe.size; a++) {
                int p = troupe.place[a];
                if (!isWithin(p, PLACES) || !hasBit(takenNow, p)) {
                    continue;
                }
                tired[a] += tiring(troupe.sort[a], load[p]);
                if (tired[a] > 4 * troupe.strength[a] || load[p] > 16 * troupe.strength[a]) {
                    giving |= 1 << p;
                }
            }
            return giving;
        }

        private static int tiring(int sort, int eighths) {
            int whole = eighths / 8;
            switch (sort) {
                case TREMBLING: return whole + 1;
                case CALM: return whole > 0 ? whole - 1 : 0;
                default: return whole;
            }
        }

        /** Those at the giving PLACES (bits) who stand FALL, and all on them. */
        private void topple(Troupe troupe, int giving, int m) {
            int falling = giving & takenNow;
            if (falling == 0) {
                return;
            }
            // a PLACE has a higher number than those it is on: one way up meets all
            for (int p = GROUND_PLACES; p < PLACES; p++) {
                if (hasBit(takenNow, p) && (falling & SUPPORTS[p]) != 0) {
                    falling |= 1 << p;
                }
            }
            takenNow &= ~falling;
            falls += Integer.bitCount(falling);
            firstFall = Math.min(firstFall, m);
            for (int a = 0; a < troupe.size; a++) {
                if (hasBit(falling, troupe.place[a])) {
                    tired[a] = 0;
                    fell[a]++;
                    lastLying[a] = m + 2;
                }
            }
        }

        private void keepFacts(Troupe troupe, int m) {
            int[] page = diary[m];
            for (int a = 0; a < troupe.size; a++) {
                int p = troupe.place[a];
                page[a * FACTS] = stateOf(troupe, a, m);
                page[a * FACTS + 1] = isWithin(p, PLACES) ? load[p] : 0;
                page[a * FACTS + 2] = tired[a];
                page[a * FACTS + 3] = fell[a];
            }
        }

        private int stateOf(Troupe troupe, int a, int m) {
            if (m < troupe.moment[a]) {
                return NOT_THERE;
            }
            if (hasBit(takenNow, troupe.place[a])) {
                return STANDS;
            }
            return m <= lastLying[a] ? LIES : THERE;
        }

        int whoIsAt(Troupe troupe, int m, int p) {
            if (!isWithin(m, MOMENTS) || !isWithin(p, PLACES) || !hasBit(taken[m], p)) {
                return NONE;
            }
            return troupe.holder[p];
        }
    }

    /** The best row so far; of like ones the one offered first stays. */
    private static final class Best {
        int first;
        int second;
        int amount;
        boolean isKnown;

        void begin() {
            first = NONE;
            second = NONE;
            amount = NONE;
            isKnown = true;
        }

        void offer(int one, int other, int much) {
            if (much > amount) {
                first = one;
                second = other;
                amount = much;
            }
        }

        int part(int i) {
            switch (i) {
                case 0: return first;
                case 1: return second;
                default: return amount;
            }
        }
    }

    /** What had better be otherwise with the ACROBATS; kept until something is told. */
    private static final class Plans {
        final Troupe trial = new Troupe();
        final Show show = new Show(false);
        final Best swapping = new Best();
        final Best training = new Best();
        final Best[] coming = new Best[MOST_ACROBATS];

        Plans() {
            for (int a = 0; a < MOST_ACROBATS; a++) {
                coming[a] = new Best();
            }
        }

        void forgetAnswers() {
            swapping.isKnown = false;
            training.isKnown = false;
            for (int a = 0; a < MOST_ACROBATS; a++) {
                coming[a].isKnown = false;
            }
        }

        Best bestSwap(Troupe troupe, Events events) {
            if (swapping.isKnown) {
                return swapping;
            }
            swapping.begin();
            trial.become(troupe);
            for (int a = 0; a < troupe.size; a++) {
                for (int b = a + 1; b < troupe.size; b++) {
                    trial.exchange(a, b);
                    show.play(trial, events, events.allBits(), false);
                    swapping.offer(a, b, show.standing);
                    trial.exchange(a, b);
                }
            }
            return swapping;
        }

        Best bestMoment(Troupe troupe, Events events, int a) {
            Best best = coming[a];
            if (best.isKnown) {
                return best;
            }
            best.begin();
            trial.become(troupe);
            for (int m = 0; m < MOMENTS; m++) {
                trial.moment[a] = m;
                show.play(trial, events, events.allBits(), false);
                best.offer(m, NONE, show.standing);
            }
            return best;
        }

        Best bestTraining(Troupe troupe, Events events) {
            if (training.isKnown) {
                return training;
            }
            training.begin();
            trial.become(troupe);
            for (int a = 0; a < troupe.size; a++) {
                trial.strength[a] = Math.min(MOST_FIGURE, troupe.strength[a] + 1);
                show.play(trial, events, events.allBits(), false);
                training.offer(a, NONE, show.standing);
                trial.strength[a] = troupe.strength[a];
            }
            return training;
        }
    }

    /** What fits what was SEEN; kept until something is told or SEEN. */
    private static final class Guesses {
        final Troupe trial = new Troupe();
        final Show show = new Show(false);
        final int[] strengths = new int[MOST_ACROBATS];
        final int[] weights = new int[MOST_ACROBATS];
        final int[] asks = new int[MOST_ACROBATS];
        /** By STRENGTH: the PLACES taken behind each MOMENT. */
        final int[][] takenBy = new int[MOST_FIGURE + 1][MOMENTS];
        int nevers;

        Guesses() {
            forgetAnswers();
        }

        void forgetAnswers() {
            Arrays.fill(strengths, UNKNOWN);
            Arrays.fill(weights, UNKNOWN);
            nevers = UNKNOWN;
        }

        int neverBits(Troupe troupe, Events events, Sights sights) {
            if (nevers != UNKNOWN) {
                return nevers;
            }
            nevers = 0;
            for (int i = 0; i < events.size; i++) {
                show.play(troupe, events, events.allBits() & ~(1 << i), false);
                if (sights.fit(show, troupe)) {
                    nevers |= 1 << i;
                }
            }
            return nevers;
        }

        void tryWeights(Troupe troupe, Events events, Sights sights, int a) {
            if (weights[a] != UNKNOWN) {
                return;
            }
            int bits = 0;
            trial.become(troupe);
            for (int w = 1; w <= MOST_FIGURE; w++) {
                trial.weight[a] = w;
                show.play(trial, events, events.allBits(), false);
                if (sights.fit(show, trial)) {
                    bits |= 1 << w;
                }
            }
            weights[a] = bits;
        }

        /** ASK needs the same runs as STRENGTHS, so both are worked out at once. */
        void tryStrengths(Troupe troupe, Events events, Sights sights, int a) {
            if (strengths[a] != UNKNOWN) {
                return;
            }
            int bits = 0;
            trial.become(troupe);
            for (int s = 1; s <= MOST_FIGURE; s++) {
                trial.strength[a] = s;
                show.play(trial, events, events.allBits(), false);
                System.arraycopy(show.taken, 0, takenBy[s], 0, MOMENTS);
                if (sights.fit(show, trial)) {
                    bits |= 1 << s;
                }
            }
            strengths[a] = bits;
            asks[a] = tellingMoment(bits);
        }

        private int tellingMoment(int bits) {
            int best = 0;
            int least = MOST_FIGURE + 1;
            for (int m = 0; m < MOMENTS; m++) {
                int alike = mostAlike(bits, m);
                if (alike < least) {
                    best = m;
                    least = alike;
                }
            }
            return best;
        }

        private int mostAlike(int bits, int m) {
            int greatest = 0;
            for (int s = 1; s <= MOST_FIGURE; s++) {
                int alike = 0;
                for (int other = 1; other <= MOST_FIGURE; other++) {
                    if (hasBit(bits, s) && hasBit(bits, other) && takenBy[s][m] == takenBy[other][m]) {
                        alike++;
                    }
                }
                greatest = Math.max(greatest, alike);
            }
            return greatest;
        }
    }

    /** When somebody first FALLS, by which of the EVENTS are; kept until something is told. */
    private static final class Tumbles {
        final Show show = new Show(false);
        final int[] firstFalls = new int[SUBSETS];
        final Best sparing = new Best();
        boolean isBegun;

        void forgetAnswers() {
            isBegun = false;
        }

        private int firstFall(Troupe troupe, Events events, int chosen) {
            if (!isBegun) {
                Arrays.fill(firstFalls, UNKNOWN);
                isBegun = true;
            }
            if (!isWithin(chosen, SUBSETS)) {
                return MOMENTS;
            }
            if (firstFalls[chosen] == UNKNOWN) {
                show.play(troupe, events, chosen, true);
                firstFalls[chosen] = show.firstFall;
            }
            return firstFalls[chosen];
        }

        /** amount: how many EVENTS; first, second: which. */
        Best fewestToSpare(Troupe troupe, Events events) {
            sparing.begin();
            int all = events.allBits();
            if (firstFall(troupe, events, all) == MOMENTS) {
                sparing.offer(NONE, NONE, 0);
                return sparing;
            }
            for (int i = 0; i < events.size; i++) {
                if (firstFall(troupe, events, all & ~(1 << i)) == MOMENTS) {
                    sparing.offer(i, NONE, 1);
                    return sparing;
                }
            }
            for (int i = 0; i < events.size; i++) {
                for (int j = i + 1; j < events.size; j++) {
                    if (firstFall(troupe, events, all & ~(1 << i) & ~(1 << j)) == MOMENTS) {
                        sparing.offer(i, j, 2);
                        return sparing;
                    }
                }
            }
            return sparing;
        }

        /** Over 16 to the number of EVENTS. */
        long chanceAbove(Troupe troupe, Events events, int c, int moment) {
            long above = 0;
            int all = events.allBits();
            for (int chosen = 0; chosen <= all; chosen++) {
                long share = shareOf(chosen, events.size, c);
                if (share > 0 && firstFall(troupe, events, chosen) <= moment) {
                    above += share;
                }
            }
            return above;
        }

        private static long shareOf(int chosen, int size, int c) {
            long share = 1;
            for (int i = 0; i < size; i++) {
                share *= hasBit(chosen, i) ? c : SIXTEENTHS - c;
            }
            return share;
        }
    }

    /** A row of a FORM; its items are held as ints, cut to the bits that the FORM has. */
    private static final class Sheet {
        final int[] items = new int[MOST_ITEMS];
        int form;
        int size;
        boolean isLost = true;

        void renew(int newForm, int n) {
            Arrays.fill(items, 0);
            form = newForm;
            size = Math.max(0, Math.min(n, MOST_ITEMS));
            isLost = false;
        }

        /** The FINDING that item i, treated as of a FORM, meets; 0: none. */
        int whatFails(int asForm, int i) {
            if (isLost) {
                return NULL;
            }
            if (asForm != form) {
                return CAST;
            }
            return isWithin(i, size) ? 0 : INDEX;
        }

        boolean hasRange(int from, int n) {
            return from >= 0 && n >= 0 && from <= size && n <= size - from;
        }

        int item(int i) {
            return isWithin(i, MOST_ITEMS) ? items[i] : 0;
        }

        void setItem(int i, int v) {
            if (isWithin(i, MOST_ITEMS)) {
                items[i] = form == BYTES ? (byte) v : form == SHORTS ? (short) v : v;
            }
        }
    }
}
