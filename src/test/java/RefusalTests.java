/**
 * Every call at the bounds of each of its numbers, in three states: the last one that is taken, the first
 * one that is refused on either side, what is far outside; what is answered; and that nothing is changed.
 */
public final class RefusalTests extends Bench {
    public static void main(String[] args) {
        for (Where where : new Where[] {new Where("new", PortraitRank::new, 0, 0, 0),
            new Where("busy", Bench::someOfAll, 3, 27, 2), new Where("full", Bench::allFull, 5, 48, 6)}) {
            theHall(where);
            acts(where);
            calls(where);
            judged(where);
            underThePaint(where);
            restsAndChances(where);
            slots(where);
            askingChangesNothing(where);
        }
        lateHalls();
        lateActs();
        lateCabmen();
        lateSlots();
        ofSeveral();
        end();
    }

    /** A state that can be made as often as wanted, and how many there are in it. */
    private record Where(String name, Make make, int cabmen, int bytes, int seen) { }

    private static void theHall(Where in) {
        sentence("promise 2, " + in.name());
        bounds("write", in.make(), (x, letter) -> x.write(letter), 0, 255, BAD);
        if (in.bytes() == 48) {
            for (int letter = 0; letter < 256; letter += 51) {
                int one = letter;
                refused("write a 49th " + one, in.make(), x -> x.write(one), FULL);
            }
        }
        sentence("promise 6, " + in.name());
        bounds("about", in.make(), (x, what) -> x.about(what), 0, 7, BAD);
        due("the cabmen are as told", in.make().one().about(0), in.cabmen());
        due("the bytes are as told", in.make().one().about(7), in.bytes());
        due("the seen ones are as told", in.make().one().about(6), in.seen());
        sentence("promise 7, " + in.name());
        for (int what = 0; what <= 4; what++) {
            int one = what;
            bounds("finger, what " + one, in.make(), (x, finger) -> x.finger(finger, one), 0, 3, UNKNOWN);
        }
        for (int finger = 0; finger < 4; finger++) {
            int one = finger;
            bounds("finger " + one + ", what", in.make(), (x, what) -> x.finger(one, what), 0, 4, BAD);
        }
        sentence("promise 8, " + in.name());
        for (int what = 0; what <= 6; what++) {
            int one = what;
            bounds("cabman, what " + one, in.make(), (x, cabman) -> x.cabman(cabman, one), 0, in.cabmen() - 1, UNKNOWN);
        }
        for (int cabman = 0; cabman < in.cabmen(); cabman++) {
            int one = cabman;
            bounds("cabman " + one + ", what", in.make(), (x, what) -> x.cabman(one, what), 0, 6, BAD);
        }
    }

    private static void acts(Where in) {
        sentence("promise 10, " + in.name());
        bounds("clean", in.make(), (x, finger) -> x.clean(finger), 0, 3, UNKNOWN);
        sentence("promise 11, " + in.name());
        bounds("paint", in.make(), (x, finger) -> x.paint(finger), 0, 3, UNKNOWN);
    }

    private static void calls(Where in) {
        sentence("promise 14, " + in.name());
        for (int cleaning : outside(0, 2222)) {
            refused("call " + cleaning, in.make(), x -> x.call(cleaning), BAD);
        }
        for (int cleaning : new int[] {3, 9, 10 * 3, 100 * 3, 1000 * 3, 2223, 2232, 2322, 3222, 10000, 12222, 20000, 100000}) {
            refused("call " + cleaning, in.make(), x -> x.call(cleaning), BAD);
        }
        sentence("promise 15, " + in.name());
        bounds("best", in.make(), (x, what) -> x.best(what), 0, 1, BAD);
        sentence("promise 16, " + in.name());
        for (int what = 0; what < 2; what++) {
            int one = what;
            bounds("strokes, what " + one, in.make(), (x, cabman) -> x.strokes(cabman, one), 0, in.cabmen() - 1, UNKNOWN);
        }
        for (int cabman = 0; cabman < in.cabmen(); cabman++) {
            int one = cabman;
            bounds("strokes " + one + ", what", in.make(), (x, what) -> x.strokes(one, what), 0, 1, BAD);
        }
        sentence("promise 17, " + in.name());
        bounds("peace", in.make(), (x, what) -> x.peace(what), 0, 1, BAD);
        sentence("promise 18, " + in.name());
        bounds("givesUp", in.make(), (x, cabman) -> x.givesUp(cabman), 0, in.cabmen() - 1, UNKNOWN);
        sentence("promise 19, " + in.name());
        bounds("longest", in.make(), (x, n) -> x.longest(n), 0, 30, BAD);
        sentence("promise 21, " + in.name());
        bounds("share, upper", in.make(), (x, finger) -> x.share(finger, true), 0, 3, UNKNOWN);
        bounds("share, lower", in.make(), (x, finger) -> x.share(finger, false), 0, 3, UNKNOWN);
    }

    private static void judged(Where in) {
        sentence("promise 20, " + in.name());
        bounds("judge, n of a night", in.make(), (x, n) -> x.judge(n, 0), 1, 4, BAD);
        bounds("judge, n of another row", in.make(), (x, n) -> x.judge(n, 99), 1, 4, BAD);
        int above = 1;
        for (int n = 1; n <= 4; n++) {
            above *= 100;
            int one = n;
            bounds("judge " + one + ", row", in.make(), (x, row) -> x.judge(one, row), 0, above - 1, BAD);
        }
    }

    private static void underThePaint(Where in) {
        sentence("promise 22, " + in.name());
        bounds("see, cabman", in.make(), (x, cabman) -> x.see(cabman, 0, 0, 0), 0, in.cabmen() - 1, UNKNOWN);
        if (in.cabmen() > 0) {
            int last = in.cabmen() - 1;
            bounds("see, finger", in.make(), (x, finger) -> x.see(last, finger, 2, 1), 0, 3, UNKNOWN);
            bounds("see, n", in.make(), (x, n) -> x.see(last, 3, n, 1), 0, 2, BAD);
            bounds("see, came", in.make(), (x, came) -> x.see(0, 0, 0, came), 0, 1, BAD);
        }
        if (in.seen() == 6) {
            for (int number = 0; number < 24; number++) {
                int one = number;
                refused("see a seventh", in.make(), x -> x.see(one % 5, one % 4, one % 3, one / 12), FULL);
            }
        }
        sentence("promise 24, " + in.name());
        for (int what = 0; what < 2; what++) {
            int one = what;
            bounds("under, what " + one, in.make(), (x, finger) -> x.under(finger, one), 0, 3, UNKNOWN);
        }
        for (int finger = 0; finger < 4; finger++) {
            int one = finger;
            bounds("under " + one + ", what", in.make(), (x, what) -> x.under(one, what), 0, 1, BAD);
        }
    }

    private static void restsAndChances(Where in) {
        sentence("promise 25, " + in.name());
        bounds("rests, cabman", in.make(), (x, cabman) -> x.rests(cabman, 0, 0), 0, in.cabmen() - 1, UNKNOWN);
        bounds("rests, other", in.make(), (x, other) -> x.rests(0, other, 1), 0, in.cabmen() - 1, UNKNOWN);
        if (in.cabmen() > 1) {
            bounds("rests, what", in.make(), (x, what) -> x.rests(0, 1, what), 0, 1, BAD);
        }
        for (int cabman = 0; cabman < in.cabmen(); cabman++) {
            int one = cabman;
            refused("rests of one, how many", in.make(), x -> x.rests(one, one, 0), BAD);
            refused("rests of one, the first", in.make(), x -> x.rests(one, one, 1), BAD);
        }
        sentence("promise 26, " + in.name());
        for (int number = 0; number < 2; number++) {
            boolean upper = number == 0;
            bounds("wet, m by 0", in.make(), (x, m) -> x.wet(m, 0, upper), 0, 5, BAD);
            bounds("wet, m by 10", in.make(), (x, m) -> x.wet(m, 10, upper), 0, 5, BAD);
            bounds("wet, x for 0", in.make(), (x, tenths) -> x.wet(0, tenths, upper), 0, 10, BAD);
            bounds("wet, x for 5", in.make(), (x, tenths) -> x.wet(5, tenths, upper), 0, 10, BAD);
        }
        sentence("promise 28, " + in.name());
        bounds("years", in.make(), (x, m) -> x.years(m), 1, 30, BAD);
    }

    private static void slots(Where in) {
        sentence("promise 29, " + in.name());
        bounds("keep", in.make(), (x, slot) -> x.keep(slot), 0, 1, UNKNOWN);
        sentence("promise 30, " + in.name());
        bounds("again", in.make(), (x, slot) -> x.again(slot), 0, 1, UNKNOWN);
    }

    private static void unchanged(String what, Where in, Call call) {
        PortraitRank x = in.make().one();
        call.on(x);
        same(what + " changes nothing", wholeOf(x), wholeOf(in.make().one()));
    }

    private static void askingChangesNothing(Where in) {
        sentence("In what follows nothing is changed, " + in.name());
        unchanged("fault", in, x -> x.fault());
        unchanged("best", in, x -> x.best(0) + x.best(1));
        unchanged("peace", in, x -> x.peace(0) + x.peace(1));
        unchanged("longest", in, x -> x.longest(0) + x.longest(30));
        unchanged("seed and back", in, x -> x.seed(x.seed(7L)));
        for (int number = 0; number < 5; number++) {
            int one = number;
            unchanged("call", in, x -> x.call(one) + x.call(10 * one) + x.call(100 * one) + x.call(1000 * one));
            unchanged("strokes", in, x -> x.strokes(one, 0) + x.strokes(one, 1));
            unchanged("givesUp", in, x -> x.givesUp(one));
            unchanged("share", in, x -> x.share(one, true) + x.share(one, false));
            unchanged("under", in, x -> x.under(one, 0) + x.under(one, 1));
            unchanged("rests", in, x -> x.rests(one, 0, 0) + x.rests(1, one, 1));
            unchanged("wet", in, x -> x.wet(one, one, true) + x.wet(one, 10 - one, false));
            unchanged("judge a night and an act", in, x -> x.judge(2, 10 + one) + x.judge(2, 20 + one) + x.judge(2, 30));
            unchanged("judge an act and a night", in, x -> x.judge(2, 1000 + 100 * one) + x.judge(2, 2000 + 100 * one) + x.judge(2, 3000));
        }
        sentence("Nothing changes but THE SEED, " + in.name());
        for (int m = 1; m <= 30; m++) {
            int times = m;
            unchanged("years", in, x -> {
                long before = x.seed(times);
                x.years(times);
                return x.seed(before);
            });
        }
    }

    private static void lateHalls() {
        sentence("promise 5, LATE: a FAULT");
        String whole = "P012120201012C023123C121033C230332C343333C023333";
        for (int length = 0; length < 48; length++) {
            if (length < 13 || (length - 13) % 7 != 0) {
                String text = whole.substring(0, length);
                refused("hall of " + length + " bytes", () -> withText(text), x -> x.hall(), LATE);
            }
        }
        for (int place = 0; place < 48; place++) {
            String text = whole.substring(0, place) + 'x' + whole.substring(place + 1);
            refused("hall with a fault at " + place, () -> withText(text), x -> x.hall(), LATE);
        }
        refused("hall of a new object", PortraitRank::new, x -> x.hall(), LATE);
    }

    private static PortraitRank withText(String text) {
        PortraitRank x = someOfAll();
        tell(x, text);
        return x;
    }

    private static void lateActs() {
        sentence("promise 10, LATE: 2 are off");
        for (int finger = 0; finger < 4; finger++) {
            int one = finger;
            Make twice = () -> {
                PortraitRank x = of(HAND + "C093333");
                x.night();
                x.clean(one);
                x.clean(one);
                return x;
            };
            refused("clean " + one, twice, x -> x.clean(one), LATE);
        }
        refused("clean with acts full", Bench::allFull, x -> x.clean(0), LATE);
        sentence("promise 11, LATE: none is off");
        for (int finger = 0; finger < 4; finger++) {
            int one = finger;
            refused("paint " + one + " of a new object", PortraitRank::new, x -> x.paint(one), LATE);
            Make others = () -> {
                PortraitRank x = of(HAND + "C093333");
                for (int other = 0; other < 4; other++) {
                    x.clean(other);
                }
                x.paint(one);
                return x;
            };
            refused("paint " + one + " where others are off", others, x -> x.paint(one), LATE);
        }
        refused("paint with acts full", Bench::allFull, x -> x.paint(1), LATE);
        sentence("promise 12, LATE: nobody WAITS");
        refused("send of a new object", PortraitRank::new, x -> x.send(), LATE);
        refused("send before the first night", () -> of(FIVE), x -> x.send(), LATE);
        refused("send with acts full", RefusalTests::manyNightsOfNobody, x -> x.send(), LATE);
        sentence("promise 13, LATE: there is none");
        refused("undo of a new object", PortraitRank::new, x -> x.undo(), LATE);
        refused("undo of a new hall", () -> of(FIVE), x -> x.undo(), LATE);
        refused("undo once too often", RefusalTests::allUndone, x -> x.undo(), LATE);
        refused("undo when one goes on", RefusalTests::goneOn, x -> x.undo(), LATE);
    }

    private static PortraitRank manyNightsOfNobody() {
        PortraitRank x = of(FLAT + "C091333");
        nights(x, 20);
        return x;
    }

    private static PortraitRank allUndone() {
        PortraitRank x = of(FIVE);
        nights(x, 20);
        for (int act = 0; act < 14; act++) {
            x.undo();
        }
        return x;
    }

    private static PortraitRank goneOn() {
        PortraitRank x = someOfAll();
        x.again(0);
        return x;
    }

    private static void lateCabmen() {
        sentence("promise 18, LATE: it does not WAIT");
        for (int cabman = 0; cabman < 5; cabman++) {
            int one = cabman;
            refused("givesUp " + one + " before the first night", () -> of(FIVE), x -> x.givesUp(one), LATE);
        }
        Make sent = () -> {
            PortraitRank x = of(FIVE);
            x.night();
            x.send();
            return x;
        };
        refused("givesUp of the one that was sent", sent, x -> x.givesUp(0), LATE);
        Make gone = () -> {
            PortraitRank x = of(FIVE);
            nights(x, 2);
            return x;
        };
        refused("givesUp of the one that went", gone, x -> x.givesUp(0), LATE);
        due("givesUp of the one that waits", gone.one().givesUp(1), 1);
    }

    private static void lateSlots() {
        sentence("promise 30, LATE: none were kept");
        refused("again 0 of a new object", PortraitRank::new, x -> x.again(0), LATE);
        refused("again 1 of a new object", PortraitRank::new, x -> x.again(1), LATE);
        refused("again 1 where 0 is kept", Bench::someOfAll, x -> x.again(1), LATE);
        Make other = () -> {
            PortraitRank x = of(FIVE);
            x.night();
            x.keep(1);
            return x;
        };
        refused("again 0 where 1 is kept", other, x -> x.again(0), LATE);
        sentence("promise 5, what was kept is gone");
        Make anew = () -> {
            PortraitRank x = allFull();
            x.hall();
            return x;
        };
        refused("again 0 of a hall made anew", anew, x -> x.again(0), LATE);
        refused("again 1 of a hall made anew", anew, x -> x.again(1), LATE);
        Make refusedHall = () -> {
            PortraitRank x = allFull();
            x.wipe();
            x.hall();
            return x;
        };
        due("a refused hall leaves slot 0", refusedHall.one().again(0), 3);
        due("a refused hall leaves slot 1", refusedHall.one().again(1), 0);
    }

    /** Where more than one thing is wrong. */
    private static void ofSeveral() {
        sentence("Of several what is told first");
        Make full = Bench::allFull;
        Make fresh = PortraitRank::new;
        refused("write, bad and full", full, x -> x.write(256), BAD);
        refused("write, negative and full", full, x -> x.write(-1), BAD);
        for (int bad : WILD) {
            refused("finger and what " + bad, full, x -> x.finger(bad, bad), UNKNOWN);
            refused("cabman and what " + bad, full, x -> x.cabman(bad, bad), UNKNOWN);
            refused("strokes of both " + bad, full, x -> x.strokes(bad, bad), UNKNOWN);
            refused("judge of both " + bad, full, x -> x.judge(bad, bad), BAD);
            refused("see of all " + bad, full, x -> x.see(bad, bad, bad, bad), UNKNOWN);
            refused("see of a cabman, the rest " + bad, full, x -> x.see(0, bad, bad, bad), UNKNOWN);
            refused("see of a finger, the rest " + bad, full, x -> x.see(bad, 0, bad, bad), UNKNOWN);
            refused("see with n and came " + bad, full, x -> x.see(0, 0, bad, bad), BAD);
            refused("see with n, full " + bad, full, x -> x.see(0, 0, bad, 0), BAD);
            refused("see with came, full " + bad, full, x -> x.see(0, 0, 0, bad), BAD);
            refused("see of a cabman, full " + bad, full, x -> x.see(bad, 0, 0, 0), UNKNOWN);
            refused("see of a finger, full " + bad, full, x -> x.see(0, bad, 0, 0), UNKNOWN);
            refused("under of both " + bad, full, x -> x.under(bad, bad), UNKNOWN);
            refused("rests of one that is none " + bad, full, x -> x.rests(bad, bad, bad), UNKNOWN);
            refused("rests, cabman and what " + bad, full, x -> x.rests(bad, 0, bad), UNKNOWN);
            refused("rests, other and what " + bad, full, x -> x.rests(0, bad, bad), UNKNOWN);
            refused("rests of one, what " + bad, full, x -> x.rests(4, 4, bad), BAD);
            refused("wet of both " + bad, full, x -> x.wet(bad, bad, true), BAD);
            refused("again of none " + bad, fresh, x -> x.again(bad), UNKNOWN);
            refused("strokes of nobody " + bad, fresh, x -> x.strokes(0, bad), UNKNOWN);
            refused("cabman of nobody " + bad, fresh, x -> x.cabman(0, bad), UNKNOWN);
            refused("rests of nobody " + bad, fresh, x -> x.rests(0, 0, bad), UNKNOWN);
            refused("see of nobody " + bad, fresh, x -> x.see(0, 0, bad, bad), UNKNOWN);
        }
        refused("givesUp of none, where nobody waits", () -> of(FIVE), x -> x.givesUp(5), UNKNOWN);
        refused("clean of none, where all are off", full, x -> x.clean(4), UNKNOWN);
    }
}
