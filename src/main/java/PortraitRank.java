import java.util.Arrays;

/**
 * A woman in oils with a glove up, and the cabs that come into the hall for her.
 * The words in capitals in the comments are told in the document (../shared/DOC.md).
 */
public final class PortraitRank {
    public static final int UNKNOWN = -1, BAD = -2, LATE = -3, FULL = -4, NONE = -9;

    private static final int FINGERS = 4;
    private static final int LAYERS = 3;
    private static final int MOST_OFF = 2;
    private static final int POINTING = 2;
    private static final int ANY = 3;
    private static final int NOT_COME = -1;

    private static final int ONE_EYED = 1;
    private static final int WISE = 2;
    private static final int FAITHFUL = 3;

    private static final int MOST_CABMEN = 5;
    private static final int ALL_CABMEN = (1 << MOST_CABMEN) - 1;
    private static final int MOST_BYTES = 48;
    private static final int FIRST_CABMAN_AT = 1 + FINGERS * LAYERS;
    private static final int CABMAN_BYTES = 3 + FINGERS;

    private static final int MOST_ACTS = 14;
    private static final int SLOTS = 2;
    private static final int MOST_SEEN = 6;

    private static final int CLEANINGS = 81;
    private static final int GREATEST_CLEANING = 2222;
    private static final int UNDER_ROWS = 27;
    private static final int MOST_DOINGS = 4;
    private static final int MOST_NIGHTS_TO_GIVE_UP = 20;
    private static final int MOST_NIGHTS_AHEAD = 30;
    private static final int MOST_YEARS = 30;
    private static final int WAITS = 4;
    private static final int TENTHS = 10;
    private static final int ORDERS = 24;
    private static final int MOST_GCD_STEPS = 64;

    private final Text text = new Text();
    private final Hall hall = new Hall();
    private final Scene now = new Scene();
    private final Scene trial = new Scene();
    private final Hand hand = new Hand();
    private final Shelf acts = new Shelf(MOST_ACTS);
    private final Shelf slots = new Shelf(SLOTS);
    private final Seen seen = new Seen();
    private int actCount = 0;
    private int slotsKept = 0;
    private long seed = 0L;

    public PortraitRank() {
    }

    // ---- the hall

    public int write(int letter) {
        if (letter < 0 || letter > 255) {
            return BAD;
        }
        return text.append(letter) ? text.length : FULL;
    }

    public int wipe() {
        int length = text.length;
        text.length = 0;
        return length;
    }

    public int fault() {
        return text.firstFault();
    }

    public int hall() {
        if (text.firstFault() != NONE) {
            return LATE;
        }
        hall.read(text);
        now.empty();
        actCount = 0;
        slotsKept = 0;
        return hall.count;
    }

    public int about(int what) {
        switch (what) {
            case 0:
                return hall.count;
            case 1:
                return now.waiting();
            case 2:
                return now.rank();
            case 3:
                return hailedIn(now);
            case 4:
                return now.nights;
            case 5:
                return actCount;
            case 6:
                return seen.count;
            case 7:
                return text.length;
            default:
                return BAD;
        }
    }

    public int finger(int finger, int what) {
        if (!isFinger(finger)) {
            return UNKNOWN;
        }
        if (what < 0 || what > 4) {
            return BAD;
        }
        if (what < LAYERS) {
            return hall.layer(finger, what);
        }
        return what == 3 ? now.off(finger) : shown(finger);
    }

    public int cabman(int cabman, int what) {
        if (!hall.has(cabman)) {
            return UNKNOWN;
        }
        switch (what) {
            case 0:
                return hall.kind(cabman);
            case 1:
                return hall.patience(cabman);
            case 2:
            case 3:
            case 4:
            case 5:
                return hall.wanted(cabman, what - 2);
            case 6:
                return now.waited(cabman);
            default:
                return BAD;
        }
    }

    // ---- acts

    public int night() {
        remember();
        pass(now);
        return Integer.bitCount(now.waiting());
    }

    public int clean(int finger) {
        if (!isFinger(finger)) {
            return UNKNOWN;
        }
        if (!now.canTakeOff(finger)) {
            return LATE;
        }
        remember();
        now.takeOff(finger);
        return shown(finger);
    }

    public int paint(int finger) {
        if (!isFinger(finger)) {
            return UNKNOWN;
        }
        if (!now.canPutOn(finger)) {
            return LATE;
        }
        remember();
        now.putOn(finger);
        return shown(finger);
    }

    public int send() {
        int first = now.first();
        if (first == NONE) {
            return LATE;
        }
        remember();
        now.letGo(first);
        return first;
    }

    public int undo() {
        if (actCount == 0) {
            return LATE;
        }
        actCount--;
        acts.take(actCount, now);
        return actCount;
    }

    // ---- calls

    public int call(int cleaning) {
        return hailedBy(cleaning);
    }

    public int best(int what) {
        if (!isOneOfTwo(what)) {
            return BAD;
        }
        int best = 0;
        int most = Integer.bitCount(hailedBy(best));
        for (int index = 1; index < CLEANINGS; index++) {
            int cleaning = asCleaning(index);
            int hailed = hailedBy(cleaning);
            if (hailed == BAD) {
                continue;
            }
            int count = Integer.bitCount(hailed);
            if (count > most || count == most && layersOf(cleaning) < layersOf(best)) {
                best = cleaning;
                most = count;
            }
        }
        return what == 0 ? best : most;
    }

    public int strokes(int cabman, int what) {
        if (!hall.has(cabman)) {
            return UNKNOWN;
        }
        if (!isOneOfTwo(what)) {
            return BAD;
        }
        return tellCleaning(leastCleaning(1 << cabman, 1 << cabman), what);
    }

    public int peace(int what) {
        if (!isOneOfTwo(what)) {
            return BAD;
        }
        return tellCleaning(leastCleaning(ALL_CABMEN, 0), what);
    }

    public int givesUp(int cabman) {
        if (!hall.has(cabman)) {
            return UNKNOWN;
        }
        if (now.waited(cabman) == NONE) {
            return LATE;
        }
        trial.copy(now);
        for (int nights = 1; nights <= MOST_NIGHTS_TO_GIVE_UP; nights++) {
            pass(trial);
            if (trial.waited(cabman) == NONE) {
                return nights;
            }
        }
        return NONE;
    }

    public int longest(int n) {
        if (n < 0 || n > MOST_NIGHTS_AHEAD) {
            return BAD;
        }
        trial.copy(now);
        int longest = Integer.bitCount(trial.waiting());
        for (int nights = 1; nights <= n; nights++) {
            pass(trial);
            longest = Math.max(longest, Integer.bitCount(trial.waiting()));
        }
        return longest;
    }

    public int judge(int n, int row) {
        if (n < 1 || n > MOST_DOINGS || row < 0 || doingAt(n, row, -1) != 0) {
            return BAD;
        }
        trial.copy(now);
        for (int place = 0; place < n; place++) {
            int doing = doingAt(n, row, place) % 100;
            if (!attempt(trial, doing / 10, doing % 10)) {
                return place;
            }
        }
        return NONE;
    }

    public int share(int finger, boolean upper) {
        if (!isFinger(finger)) {
            return UNKNOWN;
        }
        int sum = 0;
        for (int come = 0; come < 1 << FINGERS; come++) {
            if ((come >> finger & 1) == 0) {
                int more = hailedWhenCome(come | 1 << finger) - hailedWhenCome(come);
                sum += ordersBehind(Integer.bitCount(come)) * more;
            }
        }
        return fraction(sum, ORDERS, upper);
    }

    // ---- under the paint

    public int see(int cabman, int finger, int n, int came) {
        if (!hall.has(cabman) || !isFinger(finger)) {
            return UNKNOWN;
        }
        if (n < 0 || n > MOST_OFF || came < 0 || came > 1) {
            return BAD;
        }
        return seen.add(cabman, finger, n, came) ? seen.count : FULL;
    }

    public int unsee() {
        int count = seen.count;
        seen.count = 0;
        return count;
    }

    public int under(int finger, int what) {
        if (!isFinger(finger)) {
            return UNKNOWN;
        }
        if (!isOneOfTwo(what)) {
            return BAD;
        }
        int count = 0;
        int least = NONE;
        for (int row = 0; row < UNDER_ROWS; row++) {
            if (isAsSeen(finger, row)) {
                count++;
                least = least == NONE ? row : least;
            }
        }
        return what == 0 ? count : least;
    }

    // ---- rests, chances

    public int rests(int cabman, int other, int what) {
        if (!hall.has(cabman) || !hall.has(other)) {
            return UNKNOWN;
        }
        if (cabman == other || !isOneOfTwo(what)) {
            return BAD;
        }
        int count = 0;
        int first = NONE;
        for (int one = 0; one < WAITS; one++) {
            for (int two = 0; two < WAITS; two++) {
                if (isBestWait(hall.kind(cabman), one, two) && isBestWait(hall.kind(other), two, one)) {
                    count++;
                    first = first == NONE ? 10 * one + two : first;
                }
            }
        }
        return what == 0 ? count : first;
    }

    public int wet(int m, int x, boolean upper) {
        if (m < 0 || m > MOST_CABMEN || x < 0 || x > TENTHS) {
            return BAD;
        }
        int called = Integer.bitCount(hailedIn(now));
        int top = 0;
        int bottom = 0;
        for (int came = 0; came < 1 << called; came++) {
            int chance = 1;
            for (int one = 0; one < called; one++) {
                chance *= (came >> one & 1) == 1 ? x : TENTHS - x;
            }
            bottom += chance;
            top += Integer.bitCount(came) >= m ? chance : 0;
        }
        return fraction(top, bottom, upper);
    }

    public long seed(long v) {
        long old = seed;
        seed = v;
        return old;
    }

    public int years(int m) {
        if (m < 1 || m > MOST_YEARS) {
            return BAD;
        }
        trial.copy(now);
        int together = 0;
        for (int time = 0; time < m; time++) {
            seed = seed * 6364136223846793005L + 1442695040888963407L;
            int drawn = (int) ((seed >>> 33) % 12);
            int kind = drawn < FINGERS ? 1 : drawn < 2 * FINGERS ? 2 : 0;
            attempt(trial, kind, kind == 0 ? 0 : drawn % FINGERS);
            together += Integer.bitCount(trial.waiting());
        }
        return together;
    }

    // ---- slots

    public int keep(int slot) {
        if (slot < 0 || slot >= SLOTS) {
            return UNKNOWN;
        }
        slots.put(slot, now);
        slotsKept |= 1 << slot;
        return now.nights;
    }

    public int again(int slot) {
        if (slot < 0 || slot >= SLOTS) {
            return UNKNOWN;
        }
        if ((slotsKept >> slot & 1) == 0) {
            return LATE;
        }
        slots.take(slot, now);
        actCount = 0;
        return now.nights;
    }

    // ---- what the calls share

    private static boolean isFinger(int finger) {
        return finger >= 0 && finger < FINGERS;
    }

    private static boolean isOneOfTwo(int what) {
        return what == 0 || what == 1;
    }

    private int shown(int finger) {
        return hall.layer(finger, now.off(finger));
    }

    private void remember() {
        if (actCount == MOST_ACTS) {
            acts.forgetFirst();
            actCount--;
        }
        acts.put(actCount, now);
        actCount++;
    }

    private int hailedIn(Scene scene) {
        hand.showAll(hall, scene);
        return hand.hailed(hall);
    }

    private void pass(Scene scene) {
        scene.pass(hall, hailedIn(scene));
    }

    /** Bits of those called by a cleaning, or BAD: a figure above 2 is always more than can be off. */
    private int hailedBy(int cleaning) {
        if (cleaning < 0 || cleaning > GREATEST_CLEANING) {
            return BAD;
        }
        int rest = cleaning;
        for (int finger = FINGERS - 1; finger >= 0; finger--) {
            int off = now.off(finger) + rest % 10;
            if (off > MOST_OFF) {
                return BAD;
            }
            hand.show(finger, hall.layer(finger, off));
            rest /= 10;
        }
        return hand.hailed(hall);
    }

    /** The cleanings in rising order, by 0 .. 80: so of like ones the first one found is the least. */
    private static int asCleaning(int index) {
        return index / 27 * 1000 + index / 9 % 3 * 100 + index / 3 % 3 * 10 + index % 3;
    }

    private static int layersOf(int cleaning) {
        return cleaning / 1000 + cleaning / 100 % 10 + cleaning / 10 % 10 + cleaning % 10;
    }

    private int leastCleaning(int looked, int due) {
        int least = NONE;
        for (int index = 0; index < CLEANINGS; index++) {
            int cleaning = asCleaning(index);
            int hailed = hailedBy(cleaning);
            if (hailed == BAD || (hailed & looked) != due) {
                continue;
            }
            if (least == NONE || layersOf(cleaning) < layersOf(least)) {
                least = cleaning;
            }
        }
        return least;
    }

    private static int tellCleaning(int cleaning, int what) {
        return cleaning == NONE || what == 0 ? cleaning : layersOf(cleaning);
    }

    /** The figures of the row up to that doing; for place -1 what stands ahead of the first one. */
    private static int doingAt(int n, int row, int place) {
        int rest = row;
        for (int behind = place + 1; behind < n; behind++) {
            rest /= 100;
        }
        return rest;
    }

    /** Does a doing, if it can be; a doing that can not be changes nothing. */
    private boolean attempt(Scene scene, int kind, int finger) {
        switch (kind) {
            case 0:
                if (finger == 0) {
                    pass(scene);
                }
                return finger == 0;
            case 1:
                return isFinger(finger) && scene.takeOff(finger);
            case 2:
                return isFinger(finger) && scene.putOn(finger);
            case 3:
                return finger == 0 && scene.letGo(scene.first());
            default:
                return false;
        }
    }

    /** Whom fewer fingers call all four call too, so these are all called now. */
    private int hailedWhenCome(int come) {
        for (int finger = 0; finger < FINGERS; finger++) {
            hand.show(finger, (come >> finger & 1) == 1 ? shown(finger) : NOT_COME);
        }
        return Integer.bitCount(hand.hailed(hall));
    }

    /** In how many of the 24 orders a finger comes just behind that set of others. */
    private static int ordersBehind(int others) {
        return others == 0 || others == FINGERS - 1 ? 6 : 2;
    }

    private boolean isAsSeen(int finger, int row) {
        hand.showAll(hall, now);
        for (int place = 0; place < seen.count; place++) {
            int cabman = seen.at(place, Seen.CABMAN);
            if (seen.at(place, Seen.FINGER) != finger || !hall.has(cabman)) {
                continue;
            }
            hand.show(finger, layerOfRow(row, seen.at(place, Seen.OFF)));
            if (hand.hails(hall, cabman) != (seen.at(place, Seen.CAME) == 1)) {
                return false;
            }
        }
        return true;
    }

    private static int layerOfRow(int row, int off) {
        if (off == 0) {
            return row / 9;
        }
        return off == 1 ? row / 3 % 3 : row % 3;
    }

    private static boolean isBestWait(int kind, int wait, int others) {
        for (int another = 0; another < WAITS; another++) {
            if (gain(kind, another, others) > gain(kind, wait, others)) {
                return false;
            }
        }
        return true;
    }

    private static int gain(int kind, int wait, int others) {
        int prize = kind == WISE ? 5 : 4;
        return wait > others ? prize - wait : -wait;
    }

    private static int fraction(int top, int bottom, boolean upper) {
        int common = top;
        int rest = bottom;
        for (int step = 0; step < MOST_GCD_STEPS && rest != 0; step++) {
            int left = common % rest;
            common = rest;
            rest = left;
        }
        if (common == 0) {
            return 0;
        }
        return (upper ? top : bottom) / common;
    }

    /** THE TEXT. */
    private static final class Text {
        private final int[] letters = new int[MOST_BYTES];
        private int length = 0;

        boolean append(int letter) {
            if (length >= MOST_BYTES) {
                return false;
            }
            letters[length] = letter;
            length++;
            return true;
        }

        int figure(int place) {
            return place < 0 || place >= length ? 0 : letters[place] - '0';
        }

        int firstFault() {
            for (int place = 0; place < length; place++) {
                if (!fits(place, letters[place])) {
                    return place;
                }
            }
            boolean whole = length >= FIRST_CABMAN_AT && (length - FIRST_CABMAN_AT) % CABMAN_BYTES == 0;
            return whole ? NONE : length;
        }

        private static boolean fits(int place, int letter) {
            if (place == 0) {
                return letter == 'P';
            }
            if (place < FIRST_CABMAN_AT) {
                return letter >= '0' && letter <= '2';
            }
            switch ((place - FIRST_CABMAN_AT) % CABMAN_BYTES) {
                case 0:
                    return letter == 'C';
                case 2:
                    return letter >= '1' && letter <= '9';
                default:
                    return letter >= '0' && letter <= '3';
            }
        }
    }

    /** What THE HALL tells once for all: LAYERS and CABMEN. */
    private static final class Hall {
        private final int[] layers = new int[FINGERS * LAYERS];
        private final int[] kinds = new int[MOST_CABMEN];
        private final int[] patiences = new int[MOST_CABMEN];
        private final int[] wanted = new int[MOST_CABMEN * FINGERS];
        private int count = 0;

        /** Only for a text without a fault. */
        void read(Text text) {
            for (int place = 0; place < layers.length; place++) {
                layers[place] = text.figure(1 + place);
            }
            count = Math.min((text.length - FIRST_CABMAN_AT) / CABMAN_BYTES, MOST_CABMEN);
            for (int cabman = 0; cabman < count; cabman++) {
                int start = FIRST_CABMAN_AT + cabman * CABMAN_BYTES;
                kinds[cabman] = text.figure(start + 1);
                patiences[cabman] = text.figure(start + 2);
                for (int finger = 0; finger < FINGERS; finger++) {
                    wanted[cabman * FINGERS + finger] = text.figure(start + 3 + finger);
                }
            }
        }

        boolean has(int cabman) {
            return cabman >= 0 && cabman < count;
        }

        int layer(int finger, int off) {
            return isFinger(finger) && off >= 0 && off < LAYERS ? layers[finger * LAYERS + off] : 0;
        }

        int kind(int cabman) {
            return cabman >= 0 && cabman < count ? kinds[cabman] : 0;
        }

        int patience(int cabman) {
            return cabman >= 0 && cabman < count ? patiences[cabman] : 0;
        }

        int wanted(int cabman, int finger) {
            boolean stands = cabman >= 0 && cabman < count && finger >= 0 && finger < FINGERS;
            return stands ? wanted[cabman * FINGERS + finger] : 0;
        }
    }

    /** What each FINGER shows, as it is or as it would be. */
    private static final class Hand {
        private final int[] shown = new int[FINGERS];

        void show(int finger, int layer) {
            if (isFinger(finger)) {
                shown[finger] = layer;
            }
        }

        void showAll(Hall hall, Scene scene) {
            for (int finger = 0; finger < FINGERS; finger++) {
                shown[finger] = hall.layer(finger, scene.off(finger));
            }
        }

        int hailed(Hall hall) {
            int bits = 0;
            for (int cabman = 0; cabman < hall.count; cabman++) {
                if (hails(hall, cabman)) {
                    bits |= 1 << cabman;
                }
            }
            return bits;
        }

        boolean hails(Hall hall, int cabman) {
            int kind = hall.kind(cabman);
            int looked = kind == ONE_EYED ? 2 : FINGERS;
            boolean points = false;
            for (int finger = 0; finger < looked; finger++) {
                int wanted = hall.wanted(cabman, finger);
                if (shown[finger] == NOT_COME || wanted != ANY && wanted != shown[finger]) {
                    return false;
                }
                points |= shown[finger] == POINTING;
            }
            return kind != WISE || points;
        }
    }

    /**
     * What is off, who WAITS and how long, THE NIGHT. The RANK needs no row of its own: who came
     * in an earlier NIGHT has waited longer, and those that came in one NIGHT stand by number.
     */
    private static final class Scene {
        private static final int CELLS = FINGERS + MOST_CABMEN + 1;
        private final int[] off = new int[FINGERS];
        private final int[] waited = new int[MOST_CABMEN];
        private int nights = 0;

        Scene() {
            Arrays.fill(waited, NONE);
        }

        void empty() {
            Arrays.fill(off, 0);
            Arrays.fill(waited, NONE);
            nights = 0;
        }

        void copy(Scene other) {
            System.arraycopy(other.off, 0, off, 0, FINGERS);
            System.arraycopy(other.waited, 0, waited, 0, MOST_CABMEN);
            nights = other.nights;
        }

        int off(int finger) {
            return isFinger(finger) ? off[finger] : 0;
        }

        boolean canTakeOff(int finger) {
            return isFinger(finger) && off[finger] < MOST_OFF;
        }

        boolean takeOff(int finger) {
            boolean can = canTakeOff(finger);
            if (can) {
                off[finger]++;
            }
            return can;
        }

        boolean canPutOn(int finger) {
            return isFinger(finger) && off[finger] > 0;
        }

        boolean putOn(int finger) {
            boolean can = canPutOn(finger);
            if (can) {
                off[finger]--;
            }
            return can;
        }

        int waited(int cabman) {
            return cabman >= 0 && cabman < MOST_CABMEN ? waited[cabman] : NONE;
        }

        int waiting() {
            int bits = 0;
            for (int cabman = 0; cabman < MOST_CABMEN; cabman++) {
                if (waited[cabman] != NONE) {
                    bits |= 1 << cabman;
                }
            }
            return bits;
        }

        int first() {
            return firstOf(waiting());
        }

        private int firstOf(int bits) {
            int first = NONE;
            for (int cabman = 0; cabman < MOST_CABMEN; cabman++) {
                boolean looked = (bits >> cabman & 1) == 1;
                if (looked && (first == NONE || waited[cabman] > waited(first))) {
                    first = cabman;
                }
            }
            return first;
        }

        int rank() {
            int figures = 0;
            int left = waiting();
            for (int place = 0; place < MOST_CABMEN && left != 0; place++) {
                int first = firstOf(left);
                figures = figures * 10 + first + 1;
                left &= ~(1 << first);
            }
            return figures;
        }

        boolean letGo(int cabman) {
            boolean waits = waited(cabman) != NONE;
            if (waits) {
                waited[cabman] = NONE;
            }
            return waits;
        }

        void pass(Hall hall, int hailed) {
            for (int cabman = 0; cabman < MOST_CABMEN; cabman++) {
                boolean isHailed = (hailed >> cabman & 1) == 1;
                if (waited[cabman] != NONE) {
                    waited[cabman]++;
                    boolean stays = hall.kind(cabman) == FAITHFUL && isHailed;
                    if (waited[cabman] >= hall.patience(cabman) && !stays) {
                        waited[cabman] = NONE;
                    }
                } else if (isHailed) {
                    waited[cabman] = 0;
                }
            }
            nights++;
        }
    }

    /** Scenes put away, each in its own place. */
    private static final class Shelf {
        private final int places;
        private final int[] cells;

        Shelf(int places) {
            this.places = Math.max(places, 0);
            this.cells = new int[this.places * Scene.CELLS];
        }

        void put(int place, Scene scene) {
            if (place < 0 || place >= places) {
                return;
            }
            int start = place * Scene.CELLS;
            System.arraycopy(scene.off, 0, cells, start, FINGERS);
            System.arraycopy(scene.waited, 0, cells, start + FINGERS, MOST_CABMEN);
            cells[start + FINGERS + MOST_CABMEN] = scene.nights;
        }

        void take(int place, Scene scene) {
            if (place < 0 || place >= places) {
                return;
            }
            int start = place * Scene.CELLS;
            System.arraycopy(cells, start, scene.off, 0, FINGERS);
            System.arraycopy(cells, start + FINGERS, scene.waited, 0, MOST_CABMEN);
            scene.nights = cells[start + FINGERS + MOST_CABMEN];
        }

        void forgetFirst() {
            if (places > 0) {
                System.arraycopy(cells, Scene.CELLS, cells, 0, (places - 1) * Scene.CELLS);
            }
        }
    }

    /** What is SEEN, four figures each. */
    private static final class Seen {
        private static final int CABMAN = 0, FINGER = 1, OFF = 2, CAME = 3, FIGURES = 4;
        private final int[] rows = new int[MOST_SEEN * FIGURES];
        private int count = 0;

        boolean add(int cabman, int finger, int off, int came) {
            if (count >= MOST_SEEN) {
                return false;
            }
            int start = count * FIGURES;
            rows[start + CABMAN] = cabman;
            rows[start + FINGER] = finger;
            rows[start + OFF] = off;
            rows[start + CAME] = came;
            count++;
            return true;
        }

        int at(int place, int figure) {
            boolean stands = place >= 0 && place < count && figure >= 0 && figure < FIGURES;
            return stands ? rows[place * FIGURES + figure] : NONE;
        }
    }
}
