import java.util.ArrayList;
import java.util.LinkedHashMap;
import java.util.List;
import java.util.Map;

/** For each call that changes anything: just what the document tells is changed by it, all else stays. */
public final class ChangeTests extends Bench {
    private static final String TOLD = "layers and cabmen", SCENE = "off, rank and night", SEED = "seed", ACTS = "acts",
        FIRST = "slot 0", SECOND = "slot 1", TEXT = "text", SEEN = "seen";

    public static void main(String[] args) {
        theText();
        theHall();
        acts();
        undone();
        seen();
        seed();
        slots();
        end();
    }

    private static String toldOf(PortraitRank x) {
        int cabmen = x.about(0);
        StringBuilder told = new StringBuilder().append(cabmen);
        for (int finger = 0; finger < 4; finger++) {
            told.append(' ');
            for (int what = 0; what < 3; what++) {
                told.append(x.finger(finger, what));
            }
        }
        for (int cabman = 0; cabman < cabmen; cabman++) {
            told.append(" C");
            for (int what = 0; what < 6; what++) {
                told.append(x.cabman(cabman, what));
            }
        }
        return told.toString();
    }

    private static String seenOf(PortraitRank x) {
        StringBuilder seen = new StringBuilder().append(x.about(6));
        tell(x, FLAT + "C090333C093133C193333C293331C390000");
        x.hall();
        for (int finger = 0; finger < 4; finger++) {
            seen.append(' ').append(x.under(finger, 0)).append(' ').append(x.under(finger, 1));
        }
        return seen.toString();
    }

    /** An object in its parts; it is spent by this, in some 370 calls at most. */
    private static Map<String, String> partsOf(PortraitRank x) {
        Map<String, String> parts = new LinkedHashMap<>();
        parts.put(TOLD, toldOf(x));
        parts.put(SCENE, sceneOf(x));
        parts.put(SEED, "" + x.seed(0L));
        StringBuilder acts = new StringBuilder().append(x.about(5));
        for (int left = x.undo(); left != LATE; left = x.undo()) {
            acts.append(left).append(sceneOf(x));
        }
        parts.put(ACTS, acts.toString());
        parts.put(FIRST, x.again(0) == LATE ? "none" : sceneOf(x));
        parts.put(SECOND, x.again(1) == LATE ? "none" : sceneOf(x));
        parts.put(TEXT, x.about(7) + " " + x.fault() + " " + (x.hall() == LATE ? "" : toldOf(x)));
        parts.put(SEEN, seenOf(x));
        return parts;
    }

    /** Against a like object on which it was not called: the told parts are others, and no other part is. */
    private static void changes(String what, Make make, Call call, String... due) {
        Map<String, String> before = partsOf(make.one());
        PortraitRank x = make.one();
        due(what + " is taken", call.on(x) < 0 ? 0 : 1, 1);
        Map<String, String> behind = partsOf(x);
        List<String> changed = new ArrayList<>(before.keySet());
        changed.removeIf(part -> before.get(part).equals(behind.get(part)));
        same(what + " changes", changed.toString(), List.of(due).toString());
    }

    private static void theText() {
        sentence("A byte comes behind THE TEXT; THE TEXT is empty");
        changes("write", Bench::someOfAll, x -> x.write('C'), TEXT);
        changes("the first byte", PortraitRank::new, x -> x.write('P'), TEXT);
        changes("wipe", Bench::someOfAll, x -> x.wipe(), TEXT);
        changes("wipe of all", Bench::allFull, x -> x.wipe(), TEXT);
        changes("wipe of nothing", PortraitRank::new, x -> x.wipe());
    }

    private static void theHall() {
        sentence("THE TEXT is THE HALL (no ACTS; what was kept is gone; SEEN, THE SEED stay)");
        changes("hall", Bench::someOfAll, x -> x.hall(), TOLD, SCENE, ACTS, FIRST);
        changes("hall, both slots kept", Bench::allFull, x -> x.hall(), TOLD, SCENE, ACTS, FIRST, SECOND);
        changes("hall of the same text, nothing done", () -> of(FIVE), x -> x.hall());
    }

    private static void acts() {
        sentence("A NIGHT; CLEANED; PAINTED; SENT");
        for (Make make : List.<Make>of(Bench::someOfAll, Bench::allFull)) {
            changes("night", make, x -> x.night(), SCENE, ACTS);
            changes("clean", make, x -> x.clean(1), SCENE, ACTS);
            changes("paint", make, x -> x.paint(0), SCENE, ACTS);
            changes("send", make, x -> x.send(), SCENE, ACTS);
        }
        changes("a night of nobody", PortraitRank::new, x -> x.night(), SCENE, ACTS);
    }

    private static void undone() {
        sentence("The last ACT is undone");
        changes("undo", Bench::someOfAll, x -> x.undo(), SCENE, ACTS);
        changes("undo of a night", Bench::allFull, x -> x.undo(), SCENE, ACTS);
        Make sent = () -> {
            PortraitRank x = someOfAll();
            x.send();
            return x;
        };
        changes("undo of one that was sent", sent, x -> x.undo(), SCENE, ACTS);
        // What is no act comes between an act and its undoing, and stays.
        Make between = () -> {
            PortraitRank x = someOfAll();
            x.night();
            x.see(1, 0, 2, 1);
            x.seed(99L);
            x.years(7);
            x.keep(1);
            x.write('C');
            return x;
        };
        changes("undo behind what is no act", between, x -> x.undo(), SCENE, ACTS);
        Make none = () -> {
            PortraitRank x = between.one();
            x.undo();
            return x;
        };
        due("bytes", none.one().about(7), 28);
        due("seen", none.one().about(6), 3);
        due("kept", none.one().again(1), 4);
        due("acts", none.one().about(5), 5);
    }

    private static void seen() {
        sentence("SEEN; Nothing is SEEN");
        changes("see", Bench::someOfAll, x -> x.see(0, 0, 0, 1), SEEN);
        changes("unsee", Bench::someOfAll, x -> x.unsee(), SEEN);
        changes("unsee of six", Bench::allFull, x -> x.unsee(), SEEN);
        changes("unsee of nothing", PortraitRank::new, x -> x.unsee());
    }

    private static void seed() {
        sentence("THE SEED is v; (Nothing changes but THE SEED.)");
        changes("seed", Bench::someOfAll, x -> x.seed(1L), SEED);
        changes("seed as it was", Bench::someOfAll, x -> x.seed(12345L));
        for (int m = 1; m <= 30; m++) {
            int times = m;
            changes("years", Bench::someOfAll, x -> x.years(times), SEED);
            changes("years", Bench::allFull, x -> x.years(times), SEED);
        }
    }

    private static void slots() {
        sentence("They are kept; They are as they were kept; (no ACTS when one goes on)");
        changes("keep", Bench::someOfAll, x -> x.keep(0), FIRST);
        changes("keep in the other", Bench::someOfAll, x -> x.keep(1), SECOND);
        changes("keep anew", Bench::allFull, x -> x.keep(1), SECOND);
        changes("again", Bench::someOfAll, x -> x.again(0), SCENE, ACTS);
        changes("again of the one", Bench::allFull, x -> x.again(0), SCENE, ACTS);
        changes("again of the other", Bench::allFull, x -> x.again(1), SCENE, ACTS);
        Make goneOn = () -> {
            PortraitRank x = allFull();
            x.again(0);
            return x;
        };
        changes("again once more", goneOn, x -> x.again(0));
    }
}
