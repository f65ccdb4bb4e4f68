import java.math.BigInteger;
import java.util.ArrayList;
import java.util.Arrays;
import java.util.Comparator;
import java.util.List;
import java.util.Random;
import java.util.regex.Matcher;
import java.util.regex.Pattern;

/**
 * Runs of calls by chance (the seeds are set), each answer against a second model that is written
 * in another way: a rank that is a list, orders gone through one by one, big numbers, patterns.
 */
public final class ModelTests {
    private static final int UNKNOWN = -1, BAD = -2, LATE = -3, FULL = -4, NONE = -9;
    private static final int RUNS = 3000;
    private static final int CALLS = 512;

    private static int wrong = 0;

    public static void main(String[] args) {
        for (int run = 0; run < RUNS && wrong < 10; run++) {
            new Run(run).go();
        }
        System.out.println(RUNS + " runs of some " + CALLS + " calls, " + wrong + " wrong");
        if (wrong != 0) {
            System.exit(1);
        }
    }

    /** A run on one object; it ends with the first wrong answer. */
    private static final class Run {
        private final int number;
        private final Random chance;
        private final PortraitRank x = new PortraitRank();
        private final Model model = new Model();
        private final List<String> told = new ArrayList<>();
        private int calls = 0;
        private boolean well = true;

        Run(int number) {
            this.number = number;
            this.chance = new Random(number);
        }

        void go() {
            // A turn has two calls at most, but for telling a hall, which has 51.
            while (calls < CALLS - 1 && well) {
                int kind = chance.nextInt(100);
                if (calls == 0 || kind == 0 && calls < CALLS - 51) {
                    tellHall();
                } else if (kind < 30) {
                    act();
                } else if (kind < 60) {
                    look();
                } else {
                    ask();
                }
            }
        }

        private void due(String call, long got, long want) {
            calls++;
            told.add(call + " = " + want);
            if (got != want && well) {
                well = false;
                wrong++;
                System.out.println("run " + number + ": " + call + " answered " + got + ", due is " + want);
                System.out.println("  behind: " + told.subList(Math.max(0, told.size() - 12), told.size()));
            }
        }

        private void put(int letter) {
            due("write(" + letter + ")", x.write(letter), model.write(letter));
        }

        private void tellHall() {
            due("wipe()", x.wipe(), model.wipe());
            StringBuilder text = new StringBuilder("P");
            int layers = 1 + chance.nextInt(3);
            for (int i = 0; i < 12; i++) {
                text.append(chance.nextInt(layers));
            }
            int cabmen = chance.nextInt(6);
            for (int i = 0; i < cabmen; i++) {
                text.append('C').append(chance.nextInt(4)).append(1 + chance.nextInt(chance.nextBoolean() ? 3 : 9));
                for (int finger = 0; finger < 4; finger++) {
                    text.append(chance.nextInt(3) > 0 ? 3 : chance.nextInt(layers));
                }
            }
            if (chance.nextInt(6) == 0) {
                text.setCharAt(chance.nextInt(text.length()), "0123456789PC:/".charAt(chance.nextInt(14)));
            }
            if (chance.nextInt(10) == 0) {
                text.setLength(chance.nextInt(text.length() + 1));
            }
            for (int i = 0; i < text.length(); i++) {
                put(text.charAt(i));
            }
            due("fault()", x.fault(), model.fault());
            due("hall()", x.hall(), model.hall());
        }

        private int number(int bound) {
            int kind = chance.nextInt(40);
            if (kind == 0) {
                return new int[] {-1, -2, Integer.MIN_VALUE, Integer.MAX_VALUE, bound, bound + 1}[chance.nextInt(6)];
            }
            return chance.nextInt(kind < 3 ? bound + 1 : bound);
        }

        private void act() {
            int a = number(4);
            int slot = number(2);
            switch (chance.nextInt(12)) {
                case 0, 1, 2, 3 -> due("night()", x.night(), model.night());
                case 4, 5 -> due("clean(" + a + ")", x.clean(a), model.clean(a));
                case 6, 7 -> due("paint(" + a + ")", x.paint(a), model.paint(a));
                case 8 -> due("send()", x.send(), model.send());
                case 9 -> due("undo()", x.undo(), model.undo());
                case 10 -> due("keep(" + slot + ")", x.keep(slot), model.keep(slot));
                default -> due("again(" + slot + ")", x.again(slot), model.again(slot));
            }
        }

        private void look() {
            int a = number(5);
            int f = number(4);
            int what = number(8);
            switch (chance.nextInt(6)) {
                case 0 -> due("about(2)", x.about(2), model.about(2));
                case 1 -> due("about(" + what + ")", x.about(what), model.about(what));
                case 2 -> due("finger(" + f + ", " + what + ")", x.finger(f, what), model.finger(f, what));
                case 3 -> due("cabman(" + a + ", " + what + ")", x.cabman(a, what), model.cabman(a, what));
                case 4 -> due("cabman(" + a + ", 6)", x.cabman(a, 6), model.cabman(a, 6));
                default -> odd();
            }
        }

        private void odd() {
            long v = chance.nextLong();
            switch (chance.nextInt(8)) {
                case 0 -> due("seed(" + v + ")", x.seed(v), model.seed(v));
                case 1 -> put(number(256));
                case 2 -> due("fault()", x.fault(), model.fault());
                case 3 -> due("unsee()", x.unsee(), model.unsee());
                case 4 -> due("hall()", x.hall(), model.hall());
                default -> due("about(5)", x.about(5), model.about(5));
            }
        }

        private void ask() {
            int a = number(5);
            int b = number(5);
            int f = number(4);
            int n = number(3);
            int w = number(2);
            boolean upper = chance.nextBoolean();
            switch (chance.nextInt(14)) {
                case 0 -> askCall();
                case 1 -> due("best(" + w + ")", x.best(w), model.best(w));
                case 2 -> due("strokes(" + a + ", " + w + ")", x.strokes(a, w), model.strokes(a, w));
                case 3 -> due("peace(" + w + ")", x.peace(w), model.peace(w));
                case 4 -> due("givesUp(" + a + ")", x.givesUp(a), model.givesUp(a));
                case 5 -> askLongest();
                case 6, 7 -> askJudge();
                case 8 -> due("share(" + f + ", " + upper + ")", x.share(f, upper), model.share(f, upper));
                case 9 -> due("see(" + a + ", " + f + ", " + n + ", " + w + ")", x.see(a, f, n, w), model.see(a, f, n, w));
                case 10 -> due("under(" + f + ", " + w + ")", x.under(f, w), model.under(f, w));
                case 11 -> due("rests(" + a + ", " + b + ", " + w + ")", x.rests(a, b, w), model.rests(a, b, w));
                case 12 -> askWet(upper);
                default -> askYears();
            }
        }

        private void askCall() {
            int cleaning = chance.nextInt(5) == 0 ? number(2223)
                : number(3) * 1000 + chance.nextInt(3) * 100 + chance.nextInt(3) * 10 + chance.nextInt(3);
            due("call(" + cleaning + ")", x.call(cleaning), model.call(cleaning));
        }

        private void askLongest() {
            int n = number(31);
            due("longest(" + n + ")", x.longest(n), model.longest(n));
        }

        private void askJudge() {
            int n = 1 + number(4);
            int row = 0;
            for (int i = 0; i < n && i < 4; i++) {
                int kind = chance.nextInt(4);
                boolean plain = kind == 0 || kind == 3;
                row = row * 100 + kind * 10 + (plain ? 0 : chance.nextInt(4));
            }
            if (chance.nextInt(8) == 0) {
                row = number(100000000) % (int) Math.pow(10, chance.nextInt(10));
            }
            due("judge(" + n + ", " + row + ")", x.judge(n, row), model.judge(n, row));
        }

        private void askWet(boolean upper) {
            int m = number(6);
            int tenths = number(11);
            due("wet(" + m + ", " + tenths + ", " + upper + ")", x.wet(m, tenths, upper), model.wet(m, tenths, upper));
        }

        private void askYears() {
            int m = chance.nextInt(10) == 0 ? number(31) : 1 + number(30);
            due("years(" + m + ")", x.years(m), model.years(m));
            if (chance.nextInt(4) == 0) {
                long v = chance.nextLong();
                due("seed(" + v + ")", x.seed(v), model.seed(v));
            }
        }
    }

    private record Cab(int kind, int patience, String calls) { }

    /** Off by finger; the rank as pairs of a number and the nights that it has waited. */
    private static final class State {
        int[] off = new int[4];
        List<int[]> rank = new ArrayList<>();
        int night = 0;

        State copy() {
            State other = new State();
            other.off = off.clone();
            for (int[] one : rank) {
                other.rank.add(one.clone());
            }
            other.night = night;
            return other;
        }

        int[] find(int cab) {
            return rank.stream().filter(one -> one[0] == cab).findFirst().orElse(null);
        }
    }

    private static final class Model {
        private static final Pattern HALL = Pattern.compile("P[0-2]{12}(?:C[0-3][1-9][0-3]{4})*", Pattern.DOTALL);
        private final StringBuilder text = new StringBuilder();
        private String layers = "000000000000";
        private List<Cab> cabs = new ArrayList<>();
        private State state = new State();
        private final List<State> acts = new ArrayList<>();
        private final State[] slots = new State[2];
        private final List<int[]> seen = new ArrayList<>();
        private BigInteger seed = BigInteger.ZERO;

        int write(int letter) {
            if (letter != (letter & 255)) {
                return BAD;
            }
            if (text.length() == 48) {
                return FULL;
            }
            return text.append((char) letter).length();
        }

        int wipe() {
            int length = text.length();
            text.setLength(0);
            return length;
        }

        int fault() {
            for (int length = 1; length <= text.length(); length++) {
                Matcher matcher = HALL.matcher(text.substring(0, length));
                if (!matcher.matches() && !matcher.hitEnd()) {
                    return length - 1;
                }
            }
            return HALL.matcher(text).matches() ? NONE : text.length();
        }

        int hall() {
            if (!HALL.matcher(text).matches()) {
                return LATE;
            }
            layers = text.substring(1, 13);
            cabs = new ArrayList<>();
            String[] parts = text.toString().split("C");
            for (int i = 1; i < parts.length; i++) {
                cabs.add(new Cab(parts[i].charAt(0) - 48, parts[i].charAt(1) - 48, parts[i].substring(2)));
            }
            state = new State();
            acts.clear();
            Arrays.fill(slots, null);
            return cabs.size();
        }

        private boolean noCab(int cab) {
            return cab < 0 || cab >= cabs.size();
        }

        private static boolean noFinger(int finger) {
            return finger < 0 || finger > 3;
        }

        private char[] hand(int[] off) {
            char[] hand = new char[4];
            for (int finger = 0; finger < 4; finger++) {
                hand[finger] = layers.charAt(finger * 3 + off[finger]);
            }
            return hand;
        }

        private static boolean hails(char[] hand, Cab cab) {
            int agree = 0;
            int points = 0;
            for (int finger = 0; finger < 4; finger++) {
                boolean agrees = hand[finger] != '-'
                    && (cab.calls().charAt(finger) == '3' || cab.calls().charAt(finger) == hand[finger]);
                agree |= agrees ? 1 << finger : 0;
                points += hand[finger] == '2' ? 1 : 0;
            }
            return switch (cab.kind()) {
                case 1 -> (agree & 3) == 3;
                case 2 -> agree == 15 && points > 0;
                default -> agree == 15;
            };
        }

        private int bits(char[] hand) {
            int bits = 0;
            for (int i = 0; i < cabs.size(); i++) {
                bits += hails(hand, cabs.get(i)) ? 1 << i : 0;
            }
            return bits;
        }

        int about(int what) {
            return switch (what) {
                case 0 -> cabs.size();
                case 1 -> state.rank.stream().mapToInt(one -> 1 << one[0]).sum();
                case 2 -> state.rank.stream().mapToInt(one -> one[0] + 1).reduce(0, (all, one) -> all * 10 + one);
                case 3 -> bits(hand(state.off));
                case 4 -> state.night;
                case 5 -> acts.size();
                case 6 -> seen.size();
                case 7 -> text.length();
                default -> BAD;
            };
        }

        int finger(int finger, int what) {
            if (noFinger(finger)) {
                return UNKNOWN;
            }
            return switch (what) {
                case 0, 1, 2 -> layers.charAt(finger * 3 + what) - 48;
                case 3 -> state.off[finger];
                case 4 -> hand(state.off)[finger] - 48;
                default -> BAD;
            };
        }

        int cabman(int cab, int what) {
            if (noCab(cab)) {
                return UNKNOWN;
            }
            return switch (what) {
                case 0 -> cabs.get(cab).kind();
                case 1 -> cabs.get(cab).patience();
                case 2, 3, 4, 5 -> cabs.get(cab).calls().charAt(what - 2) - 48;
                case 6 -> state.find(cab) == null ? NONE : state.find(cab)[1];
                default -> BAD;
            };
        }

        private void pass(State on) {
            char[] hand = hand(on.off);
            List<Integer> went = new ArrayList<>();
            for (int[] one : on.rank) {
                one[1]++;
                Cab cab = cabs.get(one[0]);
                if (one[1] >= cab.patience() && !(cab.kind() == 3 && hails(hand, cab))) {
                    went.add(one[0]);
                }
            }
            on.rank.removeIf(one -> went.contains(one[0]));
            for (int i = 0; i < cabs.size(); i++) {
                if (on.find(i) == null && !went.contains(i) && hails(hand, cabs.get(i))) {
                    on.rank.add(new int[] {i, 0});
                }
            }
            on.night++;
        }

        private void remember() {
            acts.add(state.copy());
            if (acts.size() > 14) {
                acts.remove(0);
            }
        }

        int night() {
            remember();
            pass(state);
            return state.rank.size();
        }

        int clean(int finger) {
            if (noFinger(finger)) {
                return UNKNOWN;
            }
            if (state.off[finger] == 2) {
                return LATE;
            }
            remember();
            state.off[finger]++;
            return finger(finger, 4);
        }

        int paint(int finger) {
            if (noFinger(finger)) {
                return UNKNOWN;
            }
            if (state.off[finger] == 0) {
                return LATE;
            }
            remember();
            state.off[finger]--;
            return finger(finger, 4);
        }

        int send() {
            if (state.rank.isEmpty()) {
                return LATE;
            }
            remember();
            return state.rank.remove(0)[0];
        }

        int undo() {
            if (acts.isEmpty()) {
                return LATE;
            }
            state = acts.remove(acts.size() - 1);
            return acts.size();
        }

        int call(int cleaning) {
            String figures = String.format("%04d", cleaning);
            if (!figures.matches("[0-2]{4}")) {
                return BAD;
            }
            int[] off = state.off.clone();
            for (int finger = 0; finger < 4; finger++) {
                off[finger] += figures.charAt(finger) - 48;
                if (off[finger] > 2) {
                    return BAD;
                }
            }
            return bits(hand(off));
        }

        private static int layersOf(int cleaning) {
            return String.valueOf(cleaning).chars().map(figure -> figure - 48).sum();
        }

        private List<Integer> cleanings() {
            List<Integer> all = new ArrayList<>();
            for (int cleaning = 2222; cleaning >= 0; cleaning--) {
                boolean can = true;
                for (int finger = 0, unit = 1000; finger < 4; finger++, unit /= 10) {
                    can &= cleaning / unit % 10 + state.off[finger] <= 2;
                }
                if (can) {
                    all.add(cleaning);
                }
            }
            return all;
        }

        private static Comparator<Integer> byLayers() {
            return Comparator.<Integer>comparingInt(Model::layersOf).thenComparingInt(cleaning -> cleaning);
        }

        int best(int what) {
            if (what != 0 && what != 1) {
                return BAD;
            }
            Comparator<Integer> order = Comparator.<Integer>comparingInt(one -> -Integer.bitCount(call(one)));
            int best = cleanings().stream().min(order.thenComparing(byLayers())).orElseThrow();
            return what == 0 ? best : Integer.bitCount(call(best));
        }

        private static int told(Integer cleaning, int what) {
            return cleaning == null ? NONE : what == 0 ? cleaning : layersOf(cleaning);
        }

        int strokes(int cab, int what) {
            if (noCab(cab)) {
                return UNKNOWN;
            }
            if (what != 0 && what != 1) {
                return BAD;
            }
            return told(cleanings().stream().filter(one -> (call(one) >> cab & 1) == 1).min(byLayers()).orElse(null), what);
        }

        int peace(int what) {
            if (what != 0 && what != 1) {
                return BAD;
            }
            return told(cleanings().stream().filter(one -> call(one) == 0).min(byLayers()).orElse(null), what);
        }

        int givesUp(int cab) {
            if (noCab(cab)) {
                return UNKNOWN;
            }
            int[] one = state.find(cab);
            if (one == null) {
                return LATE;
            }
            Cab man = cabs.get(cab);
            boolean stays = man.kind() == 3 && hails(hand(state.off), man);
            return stays ? NONE : Math.max(1, man.patience() - one[1]);
        }

        int longest(int n) {
            if (n < 0 || n > 30) {
                return BAD;
            }
            State ahead = state.copy();
            int longest = ahead.rank.size();
            for (int i = 0; i < n; i++) {
                pass(ahead);
                longest = Math.max(longest, ahead.rank.size());
            }
            return longest;
        }

        int judge(int n, int row) {
            if (n < 1 || n > 4 || row < 0 || String.valueOf(row).length() > 2 * n) {
                return BAD;
            }
            String figures = String.format("%0" + 2 * n + "d", row);
            Model other = new Model();
            other.layers = layers;
            other.cabs = cabs;
            other.state = state.copy();
            for (int place = 0; place < n; place++) {
                int kind = figures.charAt(2 * place) - 48;
                int finger = figures.charAt(2 * place + 1) - 48;
                int answer = switch (kind) {
                    case 0 -> finger == 0 ? other.night() : BAD;
                    case 1 -> other.clean(finger);
                    case 2 -> other.paint(finger);
                    case 3 -> finger == 0 ? other.send() : BAD;
                    default -> BAD;
                };
                if (answer < 0) {
                    return place;
                }
            }
            return NONE;
        }

        int share(int finger, boolean upper) {
            if (noFinger(finger)) {
                return UNKNOWN;
            }
            int orders = 0;
            int more = 0;
            for (int number = 0; number < 256; number++) {
                int[] order = {number >> 6, number >> 4 & 3, number >> 2 & 3, number & 3};
                if (Arrays.stream(order).distinct().count() < 4) {
                    continue;
                }
                orders++;
                char[] hand = {'-', '-', '-', '-'};
                for (int next : order) {
                    int before = Integer.bitCount(bits(hand));
                    hand[next] = hand(state.off)[next];
                    more += next == finger ? Integer.bitCount(bits(hand)) - before : 0;
                }
            }
            return fraction(BigInteger.valueOf(more), BigInteger.valueOf(orders), upper);
        }

        private static int fraction(BigInteger above, BigInteger below, boolean upper) {
            BigInteger common = above.gcd(below);
            return (upper ? above : below).divide(common).intValueExact();
        }

        int see(int cab, int finger, int n, int came) {
            if (noCab(cab) || noFinger(finger)) {
                return UNKNOWN;
            }
            if (n < 0 || n > 2 || came < 0 || came > 1) {
                return BAD;
            }
            if (seen.size() == 6) {
                return FULL;
            }
            seen.add(new int[] {cab, finger, n, came});
            return seen.size();
        }

        int unsee() {
            int count = seen.size();
            seen.clear();
            return count;
        }

        int under(int finger, int what) {
            if (noFinger(finger)) {
                return UNKNOWN;
            }
            if (what != 0 && what != 1) {
                return BAD;
            }
            List<Integer> rows = new ArrayList<>();
            for (int row = 0; row < 27; row++) {
                String three = String.format("%3s", Integer.toString(row, 3)).replace(' ', '0');
                boolean well = true;
                for (int[] one : seen) {
                    if (one[1] == finger && !noCab(one[0])) {
                        char[] hand = hand(state.off);
                        hand[finger] = three.charAt(one[2]);
                        well &= hails(hand, cabs.get(one[0])) == (one[3] == 1);
                    }
                }
                if (well) {
                    rows.add(row);
                }
            }
            return what == 0 ? rows.size() : rows.isEmpty() ? NONE : rows.get(0);
        }

        int rests(int cab, int other, int what) {
            if (noCab(cab) || noCab(other)) {
                return UNKNOWN;
            }
            if (cab == other || what != 0 && what != 1) {
                return BAD;
            }
            int[][][] gains = new int[4][4][2];
            for (int a = 0; a < 4; a++) {
                for (int b = 0; b < 4; b++) {
                    gains[a][b][0] = -a + (a > b ? cabs.get(cab).kind() == 2 ? 5 : 4 : 0);
                    gains[a][b][1] = -b + (b > a ? cabs.get(other).kind() == 2 ? 5 : 4 : 0);
                }
            }
            List<Integer> pairs = new ArrayList<>();
            for (int a = 0; a < 4; a++) {
                for (int b = 0; b < 4; b++) {
                    boolean rest = true;
                    for (int c = 0; c < 4; c++) {
                        rest &= gains[c][b][0] <= gains[a][b][0] && gains[a][c][1] <= gains[a][b][1];
                    }
                    if (rest) {
                        pairs.add(10 * a + b);
                    }
                }
            }
            return what == 0 ? pairs.size() : pairs.isEmpty() ? NONE : pairs.get(0);
        }

        int wet(int m, int x, boolean upper) {
            if (m < 0 || m > 5 || x < 0 || x > 10) {
                return BAD;
            }
            BigInteger[] chances = {BigInteger.ONE, BigInteger.ZERO, BigInteger.ZERO, BigInteger.ZERO, BigInteger.ZERO, BigInteger.ZERO};
            int called = Integer.bitCount(bits(hand(state.off)));
            for (int i = 0; i < called; i++) {
                for (int came = 5; came >= 0; came--) {
                    BigInteger less = came == 0 ? BigInteger.ZERO : chances[came - 1];
                    chances[came] = chances[came].multiply(BigInteger.valueOf(10 - x)).add(less.multiply(BigInteger.valueOf(x)));
                }
            }
            BigInteger above = BigInteger.ZERO;
            for (int came = m; came <= 5; came++) {
                above = above.add(chances[came]);
            }
            return fraction(above, BigInteger.TEN.pow(called), upper);
        }

        long seed(long v) {
            long old = seed.longValue();
            seed = BigInteger.valueOf(v);
            return old;
        }

        int years(int m) {
            if (m < 1 || m > 30) {
                return BAD;
            }
            State ahead = state.copy();
            int together = 0;
            for (int i = 0; i < m; i++) {
                seed = seed.multiply(new BigInteger("6364136223846793005")).add(new BigInteger("1442695040888963407"))
                    .mod(BigInteger.TWO.pow(64));
                int drawn = seed.shiftRight(33).mod(BigInteger.valueOf(12)).intValue();
                if (drawn >= 8) {
                    pass(ahead);
                } else if (drawn >= 4) {
                    ahead.off[drawn - 4] = Math.max(0, ahead.off[drawn - 4] - 1);
                } else {
                    ahead.off[drawn] = Math.min(2, ahead.off[drawn] + 1);
                }
                together += ahead.rank.size();
            }
            return together;
        }

        int keep(int slot) {
            if (slot != 0 && slot != 1) {
                return UNKNOWN;
            }
            slots[slot] = state.copy();
            return state.night;
        }

        int again(int slot) {
            if (slot != 0 && slot != 1) {
                return UNKNOWN;
            }
            if (slots[slot] == null) {
                return LATE;
            }
            state = slots[slot].copy();
            acts.clear();
            return state.night;
        }
    }
}
