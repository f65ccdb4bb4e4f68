import java.util.ArrayList;
import java.util.List;

/** What the hand-made tests share: rows with an answer that is due, halls told as texts, all that can be asked of one. */
class Bench {
    static final int UNKNOWN = -1, BAD = -2, LATE = -3, FULL = -4, NONE = -9;
    static final int LEAST = Integer.MIN_VALUE, GREATEST = Integer.MAX_VALUE;
    static final int[] WILD = {-1, LEAST, GREATEST, -9, 1 << 30};

    /** The fingers show UP, DOWN, POINTING, UP at first. */
    static final String HAND = "P120012201120";
    static final String FLAT = "P000000000000";
    /** Cleaned by a cleaning, this hand shows just its figures. */
    static final String COUNTING = "P012012012012";
    static final String FIVE = FLAT + "C013333C023333C033333C043333C053333";

    private static String heading = "";
    private static int wrong = 0;
    private static int asked = 0;

    /** A call on an object that was made for it. */
    interface Call {
        long on(PortraitRank x);
    }

    /** A call that has one number looked at; the others are set. */
    interface CallBy {
        long on(PortraitRank x, int number);
    }

    interface Make {
        PortraitRank one();
    }

    /** Under which sentence of the document the rows that follow stand. */
    static void sentence(String words) {
        heading = words + ": ";
    }

    static void due(String what, long got, long want) {
        asked++;
        if (got != want) {
            wrong++;
            System.out.println(heading + what + " answered " + got + ", due is " + want);
        }
    }

    static void same(String what, String got, String want) {
        asked++;
        if (!got.equals(want)) {
            wrong++;
            System.out.println(heading + what + " is not so:\n  it is  " + got + "\n  due is " + want);
        }
    }

    static void fraction(String what, int got, int gotBelow, int above, int below) {
        due(what + " above", got, above);
        due(what + " below", gotBelow, below);
    }

    static void end() {
        System.out.println(asked + " answers looked at, " + wrong + " wrong");
        if (wrong != 0) {
            System.exit(1);
        }
    }

    static void tell(PortraitRank x, String text) {
        x.wipe();
        for (int i = 0; i < text.length(); i++) {
            x.write(text.charAt(i));
        }
    }

    static PortraitRank of(String text) {
        PortraitRank x = new PortraitRank();
        tell(x, text);
        due("hall of " + text, x.hall(), (text.length() - 13) / 7);
        return x;
    }

    static void nights(PortraitRank x, int count) {
        for (int night = 0; night < count; night++) {
            x.night();
        }
    }

    static int faultOf(String text) {
        PortraitRank x = new PortraitRank();
        tell(x, text);
        return x.fault();
    }

    /** Some of all, nothing full: a slot is kept, the other is not; the text is another hall than the one that stands. */
    static PortraitRank someOfAll() {
        PortraitRank x = of("P012120201012C023123C121033C343333");
        x.night();
        x.clean(2);
        x.see(0, 1, 1, 1);
        x.see(2, 2, 0, 0);
        x.night();
        x.keep(0);
        x.night();
        x.clean(0);
        x.seed(12345L);
        tell(x, HAND + "C093333C191021");
        return x;
    }

    /** All is full: text, acts (some are forgotten), seen, slots; finger 0 has no layer more to lose, 1 none to gain. */
    static PortraitRank allFull() {
        PortraitRank x = of("P012120201012C023123C121033C230332C343333C023333");
        for (int count = 0; count < 6; count++) {
            x.see(count % 5, count % 4, count % 3, count % 2);
        }
        x.keep(1);
        x.clean(0);
        x.clean(0);
        nights(x, 3);
        x.clean(3);
        x.keep(0);
        nights(x, 5);
        x.send();
        x.paint(3);
        nights(x, 5);
        x.seed(-1L);
        tell(x, HAND + "C011021C123333C233333C343333C090123");
        return x;
    }

    /** All that can be asked of what stands, but for the seed, what can be undone and what is kept. */
    static String stateOf(PortraitRank x) {
        StringBuilder state = new StringBuilder();
        for (int what = 0; what < 8; what++) {
            state.append(x.about(what)).append(' ');
        }
        for (int finger = 0; finger < 4; finger++) {
            for (int what = 0; what < 5; what++) {
                state.append(x.finger(finger, what)).append(' ');
            }
            state.append(x.under(finger, 0)).append(' ').append(x.under(finger, 1)).append(' ');
        }
        for (int cabman = 0; cabman < 5; cabman++) {
            for (int what = 0; what < 7; what++) {
                state.append(x.cabman(cabman, what)).append(' ');
            }
        }
        return state.append(x.fault()).toString();
    }

    /** What acts and slots hold: who waits, how long, in which order, what is off, the night. */
    static String sceneOf(PortraitRank x) {
        StringBuilder scene = new StringBuilder("[rank ").append(x.about(2)).append(" waits ").append(x.about(1));
        for (int cabman = 0; cabman < 5; cabman++) {
            scene.append(' ').append(x.cabman(cabman, 6));
        }
        scene.append(" off ");
        for (int finger = 0; finger < 4; finger++) {
            scene.append(x.finger(finger, 3));
        }
        return scene.append(" night ").append(x.about(4)).append(']').toString();
    }

    /**
     * All of an object, what is hidden too: it is undone, gone on from each slot and told anew, so the
     * object is spent. Some 400 calls at most.
     */
    static String wholeOf(PortraitRank x) {
        StringBuilder whole = new StringBuilder(stateOf(x));
        whole.append("\n  seed ").append(x.seed(0L)).append("\n  acts");
        for (int left = x.undo(); left != LATE; left = x.undo()) {
            whole.append(' ').append(left).append(sceneOf(x));
        }
        for (int slot = 0; slot < 2; slot++) {
            whole.append("\n  slot ").append(x.again(slot)).append(sceneOf(x));
        }
        whole.append("\n  told ").append(x.hall()).append(' ').append(stateOf(x));
        return whole.append("\n  seen ").append(x.unsee()).append(" bytes ").append(x.wipe()).toString();
    }

    /** A refused call: what it answers, and that the object is as one on which it was never called. */
    static void refused(String what, Make make, Call call, long want) {
        PortraitRank x = make.one();
        due(what, call.on(x), want);
        same(what + ": what is refused changes nothing", wholeOf(x), wholeOf(make.one()));
    }

    /** What lies outside of bounds: just outside, far outside, and what a cast or a mask would bring inside. */
    static List<Integer> outside(int least, int greatest) {
        int[] tried = {least - 1, greatest + 1, -1, -2, NONE, LEAST, GREATEST, LEAST + least, LEAST + greatest, GREATEST - 1,
            least - 256, least + 256, greatest + 256, 1 << 16, (1 << 16) + least, 1 << 30, -(1 << 30), -greatest - 1};
        List<Integer> all = new ArrayList<>();
        for (int number : tried) {
            if ((number < least || number > greatest) && !all.contains(number)) {
                all.add(number);
            }
        }
        return all;
    }

    /** All from the least to the greatest are taken, all others refused by that answer, and change nothing. */
    static void bounds(String what, Make make, CallBy call, int least, int greatest, int refusal) {
        // Of a wide range only the edges are tried.
        int leap = greatest - least > 300 ? greatest - least - 2 : 0;
        for (int number = least; number <= greatest; number += number == least + 1 ? 1 + leap : 1) {
            due(what + " " + number + " is taken", call.on(make.one(), number) == refusal ? 0 : 1, 1);
        }
        for (int number : outside(least, greatest)) {
            refused(what + " " + number, make, x -> call.on(x, number), refusal);
        }
    }
}
