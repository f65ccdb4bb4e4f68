import java.util.Arrays;

/** For each promise of the document: ordinary inputs, edges and wrong inputs, with answers found by hand. */
public final class PromiseTests extends Bench {
    public static void main(String[] args) {
        newObject();
        write();
        wipe();
        fault();
        hall();
        about();
        finger();
        cabman();
        nightByPatience();
        nightByKind();
        clean();
        paint();
        send();
        undo();
        call();
        callByKind();
        best();
        strokes();
        peace();
        givesUp();
        longest();
        judge();
        share();
        see();
        unsee();
        under();
        underAsItIsNow();
        rests();
        wet();
        seed();
        years();
        keep();
        again();
        askingChangesNothing();
        refusedChangesNothing();
        end();
    }

    private static void newObject() {
        PortraitRank x = new PortraitRank();
        for (int what = 0; what < 8; what++) {
            due("new about " + what, x.about(what), 0);
        }
        for (int finger = 0; finger < 4; finger++) {
            for (int what = 0; what < 5; what++) {
                due("new finger", x.finger(finger, what), 0);
            }
        }
        due("new cabman", x.cabman(0, 0), UNKNOWN);
        due("new undo", x.undo(), LATE);
        due("new send", x.send(), LATE);
        due("new again 0", x.again(0), LATE);
        due("new again 1", x.again(1), LATE);
        due("new unsee", x.unsee(), 0);
        due("new wipe", x.wipe(), 0);
        due("new seed", x.seed(3L), 0);
        due("new night", x.night(), 0);
    }

    private static void write() {
        PortraitRank x = new PortraitRank();
        due("write 0", x.write(0), 1);
        due("write 255", x.write(255), 2);
        due("write 256", x.write(256), BAD);
        for (int letter : WILD) {
            due("write " + letter, x.write(letter), BAD);
        }
        for (int length = 3; length <= 48; length++) {
            due("write on", x.write('P'), length);
        }
        due("write the 49th", x.write('P'), FULL);
        due("write a bad 49th", x.write(256), BAD);
        due("bytes", x.about(7), 48);
    }

    private static void wipe() {
        PortraitRank x = of(FIVE);
        due("wipe 48", x.wipe(), 48);
        due("wipe again", x.wipe(), 0);
        due("wiped bytes", x.about(7), 0);
        due("wiped fault", x.fault(), 0);
        due("the hall stays", x.about(0), 5);
    }

    private static void fault() {
        due("empty", faultOf(""), 0);
        due("p", faultOf("p"), 0);
        due("P", faultOf("P"), 1);
        for (int place = 1; place < 13; place++) {
            due("cut at " + place, faultOf(HAND.substring(0, place)), place);
            due("3 at " + place, faultOf(HAND.substring(0, place) + "3"), place);
            due("/ at " + place, faultOf(HAND.substring(0, place) + "/" + HAND), place);
        }
        due("nobody", faultOf(HAND), NONE);
        due("no C", faultOf(HAND + "P"), 13);
        due("C", faultOf(HAND + "C"), 14);
        due("kind 3", faultOf(HAND + "C3"), 15);
        due("kind 4", faultOf(HAND + "C4"), 14);
        due("patience 0", faultOf(HAND + "C00"), 15);
        due("patience 9", faultOf(HAND + "C09"), 16);
        due("patience :", faultOf(HAND + "C0:"), 15);
        due("calls 3", faultOf(HAND + "C093333"), NONE);
        for (int finger = 0; finger < 4; finger++) {
            due("calls 4", faultOf(HAND + "C09" + "3210".substring(0, finger) + "4"), 16 + finger);
            due("calls cut", faultOf(HAND + "C09" + "3210".substring(0, finger)), 16 + finger);
        }
        due("two", faultOf(HAND + "C093333C011111"), NONE);
        due("the first of two faults", faultOf(HAND + "C0933x3x"), 18);
        due("48 bytes", faultOf(FIVE), NONE);
        due("47 bytes", faultOf(FIVE.substring(0, 47)), 47);
        due("a fault in the 48th", faultOf(FIVE.substring(0, 47) + "4"), 47);
        due("high byte", faultOf(HAND + (char) 195), 13);
        due("letter 0", faultOf("P" + (char) 0), 1);
    }

    private static void hall() {
        PortraitRank x = of(HAND + "C093333C123333");
        due("cabmen", x.about(0), 2);
        due("text stays", x.about(7), 27);
        x.night();
        x.clean(0);
        x.keep(0);
        x.keep(1);
        x.see(1, 2, 1, 1);
        x.seed(77L);
        x.wipe();
        due("no hall", x.hall(), LATE);
        due("kept by the refusal", x.about(4), 1);
        due("kept acts", x.about(5), 2);
        tell(x, FLAT + "C0");
        due("half a cabman", x.hall(), LATE);
        tell(x, "P222222222222");
        due("a hall of nobody", x.hall(), 0);
        due("nobody waits", x.about(1), 0);
        due("no rank", x.about(2), 0);
        due("night 0", x.about(4), 0);
        due("no acts", x.about(5), 0);
        due("seen stays", x.about(6), 1);
        due("none off", x.finger(0, 3), 0);
        due("shown", x.finger(0, 4), 2);
        due("kept 0 is gone", x.again(0), LATE);
        due("kept 1 is gone", x.again(1), LATE);
        due("seed stays", x.seed(0L), 77);
        due("no cabman 0", x.cabman(0, 0), UNKNOWN);
        tell(x, FIVE);
        due("five", x.hall(), 5);
        due("made anew from the same text", x.hall(), 5);
    }

    private static void about() {
        PortraitRank x = of(FLAT + "C050000C051111C013333C353333");
        x.see(0, 0, 0, 1);
        x.see(0, 0, 0, 0);
        x.night();
        x.night();
        x.night();
        due("cabmen", x.about(0), 4);
        due("waits", x.about(1), 13);
        due("rank", x.about(2), 143);
        due("called", x.about(3), 13);
        due("night", x.about(4), 3);
        due("acts", x.about(5), 3);
        due("seen", x.about(6), 2);
        due("bytes", x.about(7), 41);
        due("about 8", x.about(8), BAD);
        for (int what : WILD) {
            due("about " + what, x.about(what), BAD);
        }
        PortraitRank five = of(FIVE);
        five.night();
        due("five wait", five.about(1), 31);
        due("a rank of five", five.about(2), 12345);
    }

    private static void finger() {
        PortraitRank x = of(HAND);
        int[][] layers = {{1, 2, 0}, {0, 1, 2}, {2, 0, 1}, {1, 2, 0}};
        for (int off = 0; off <= 2; off++) {
            for (int finger = 0; finger < 4; finger++) {
                for (int what = 0; what < 3; what++) {
                    due("layer", x.finger(finger, what), layers[finger][what]);
                }
                due("off", x.finger(finger, 3), off);
                due("shown", x.finger(finger, 4), layers[finger][off]);
                x.clean(finger);
            }
        }
        due("finger 4", x.finger(4, 0), UNKNOWN);
        due("finger 0, 5", x.finger(0, 5), BAD);
        due("finger 4, 5", x.finger(4, 5), UNKNOWN);
        for (int bad : WILD) {
            due("finger " + bad, x.finger(bad, bad), UNKNOWN);
            due("finger what " + bad, x.finger(3, bad), BAD);
        }
    }

    private static void cabman() {
        PortraitRank x = of(HAND + "C090123C211032");
        int[] first = {0, 9, 0, 1, 2, 3, NONE};
        int[] second = {2, 1, 1, 0, 3, 2, NONE};
        for (int what = 0; what < 7; what++) {
            due("cabman 0, " + what, x.cabman(0, what), first[what]);
            due("cabman 1, " + what, x.cabman(1, what), second[what]);
        }
        due("cabman 2", x.cabman(2, 0), UNKNOWN);
        due("cabman 0, 7", x.cabman(0, 7), BAD);
        due("cabman 2, 7", x.cabman(2, 7), UNKNOWN);
        for (int bad : WILD) {
            due("cabman " + bad, x.cabman(bad, bad), UNKNOWN);
            due("cabman what " + bad, x.cabman(1, bad), BAD);
        }
        PortraitRank waits = of(FLAT + "C393333");
        waits.night();
        due("has waited 0", waits.cabman(0, 6), 0);
        waits.night();
        due("has waited 1", waits.cabman(0, 6), 1);
    }

    private static void nightByPatience() {
        PortraitRank x = of(FLAT + "C013333C023333C313333");
        due("first night", x.night(), 3);
        due("by number", x.about(2), 123);
        due("second night", x.night(), 2);
        due("0 has gone, and not come in this night", x.about(2), 23);
        due("third night", x.night(), 2);
        due("1 has gone, 0 comes behind", x.about(2), 31);
        due("fourth night", x.night(), 2);
        due("0 has gone, 1 comes behind", x.about(2), 32);
        due("fifth night", x.night(), 3);
        due("1 waits, 0 comes behind", x.about(2), 321);
        due("sixth night", x.night(), 1);
        due("both have gone", x.about(2), 3);
        due("the night", x.about(4), 6);
    }

    private static void nightByKind() {
        PortraitRank x = of("P000100000000C323133C083133C393133");
        due("all come", x.night(), 3);
        for (int night = 2; night <= 5; night++) {
            due("all wait", x.night(), 3);
        }
        due("faithful beyond its patience", x.cabman(0, 6), 4);
        x.clean(1);
        due("called by none", x.about(3), 0);
        due("the faithful one goes uncalled", x.night(), 2);
        due("who is left", x.about(2), 23);
        x.night();
        due("the plain one has waited 6", x.cabman(1, 6), 6);
        due("all its patience but one", x.night(), 2);
        due("the plain one goes", x.night(), 1);
        due("the faithful one has waited 8", x.cabman(2, 6), 8);
        due("the faithful one goes at 9", x.night(), 0);
        x.paint(1);
        due("all come again", x.night(), 3);
        due("by number", x.about(2), 123);
    }

    private static void clean() {
        PortraitRank x = of(HAND);
        due("clean 2", x.clean(2), 0);
        due("clean 2 again", x.clean(2), 1);
        due("clean 2 a third time", x.clean(2), LATE);
        due("off", x.finger(2, 3), 2);
        due("acts", x.about(5), 2);
        due("clean 4", x.clean(4), UNKNOWN);
        for (int bad : WILD) {
            due("clean " + bad, x.clean(bad), UNKNOWN);
        }
        due("clean 3", x.clean(3), 2);
        due("others stay", x.finger(0, 3), 0);
    }

    private static void paint() {
        PortraitRank x = of(HAND);
        due("paint with none off", x.paint(2), LATE);
        x.clean(2);
        x.clean(2);
        x.clean(1);
        due("paint 2", x.paint(2), 0);
        due("paint 2 again", x.paint(2), 2);
        due("paint 2 a third time", x.paint(2), LATE);
        due("finger 1 stays", x.finger(1, 4), 1);
        due("acts", x.about(5), 5);
        due("paint 4", x.paint(4), UNKNOWN);
        for (int bad : WILD) {
            due("paint " + bad, x.paint(bad), UNKNOWN);
        }
    }

    private static void send() {
        PortraitRank x = of(FLAT + "C013333C053333C053333");
        due("nobody", x.send(), LATE);
        due("no act", x.about(5), 0);
        x.night();
        due("the first", x.send(), 0);
        due("gone", x.cabman(0, 6), NONE);
        due("the second", x.send(), 1);
        due("left", x.about(2), 3);
        due("acts", x.about(5), 3);
        x.night();
        due("who was sent comes again", x.about(2), 312);
        due("the longest waiting goes", x.send(), 2);
        due("then by number", x.send(), 0);
        due("the last one", x.send(), 1);
        due("nobody is left", x.send(), LATE);
    }

    private static void undo() {
        PortraitRank x = of("P010000000000C013333C053333C390333");
        String[] states = new String[8];
        states[0] = sceneOf(x);
        x.night();
        states[1] = sceneOf(x);
        x.clean(0);
        states[2] = sceneOf(x);
        x.night();
        states[3] = sceneOf(x);
        x.send();
        states[4] = sceneOf(x);
        x.paint(0);
        states[5] = sceneOf(x);
        x.night();
        states[6] = sceneOf(x);
        for (int left = 5; left >= 0; left--) {
            due("undo", x.undo(), left);
            due("as it was with " + left + " acts", sceneOf(x).equals(states[left]) ? 1 : 0, 1);
        }
        due("nothing left", x.undo(), LATE);
        for (int night = 1; night <= 20; night++) {
            x.night();
            due("14 acts at most", x.about(5), Math.min(night, 14));
        }
        for (int left = 13; left >= 0; left--) {
            due("undo to " + left, x.undo(), left);
            due("night", x.about(4), left + 6);
        }
        due("the first six are forgotten", x.undo(), LATE);
        due("night 6", x.about(4), 6);
    }

    private static void call() {
        PortraitRank x = of(HAND + "C091021C092021C091121C093333");
        due("call 0", x.call(0), 9);
        due("call 1000", x.call(1000), 10);
        due("call 100", x.call(100), 12);
        due("call 2222", x.call(2222), 8);
        due("nothing is off", x.finger(0, 3), 0);
        for (int bad : new int[] {3, 13, 30, 300, 3000, 2223, 10000, 12222, 1 << 20, 9, 2003, 130}) {
            due("call " + bad, x.call(bad), BAD);
        }
        for (int bad : WILD) {
            due("call " + bad, x.call(bad), BAD);
        }
        x.clean(0);
        due("from what is off already", x.call(0), 10);
        due("one more", x.call(1000), 8);
        due("two more", x.call(2000), BAD);
        x.clean(0);
        due("one more than can be", x.call(1000), BAD);
        due("another finger", x.call(222), 8);
    }

    private static void callByKind() {
        PortraitRank x = of("P011000222000C011000C111222C213303C213333C312020");
        // shown: 0 DOWN, 0 DOWN, 2 POINTING, 0 DOWN
        due("wise ones see a finger that points", x.call(0), 8);
        due("plain needs all four", x.call(1000), 8);
        PortraitRank one = of("P010000222000C111022C010022C211020C211333C311020");
        due("nobody but", one.call(0), 0);
        due("one-eyed looks at two, the others at four", one.call(1000), 1 | 4 | 8 | 16);
        PortraitRank none = of("P010101010101C213333C211111C013333");
        due("wise with no finger pointing", none.call(0), 4);
        due("all up", none.call(1111), 4);
        PortraitRank all = of("P222222222222C213333C112200C312222");
        due("wise with all pointing", all.call(0), 7);
    }

    private static void best() {
        PortraitRank x = of(HAND + "C013333C012333C113333");
        due("fewest layers", x.best(0), 1000);
        due("how many", x.best(1), 3);
        due("best 2", x.best(2), BAD);
        for (int bad : WILD) {
            due("best " + bad, x.best(bad), BAD);
        }
        PortraitRank like = of("P010010010010C093333C093133C093331");
        due("needs fingers 1 and 3", like.best(0), 101);
        due("three are called", like.best(1), 3);
        PortraitRank most = of("P010010010010C093330C093331C093331");
        due("two by a layer, not one by none", most.best(0), 1);
        due("two are called", most.best(1), 2);
        PortraitRank tie = of("P010010010010C091000C090001C090010");
        due("of one layer each the least", tie.best(0), 1);
        due("just one", tie.best(1), 1);
        PortraitRank nobody = of(HAND);
        due("nobody", nobody.best(0), 0);
        due("none", nobody.best(1), 0);
        PortraitRank fewest = of("P010002010010C091333C093233");
        due("both", fewest.best(0), 1200);
        fewest.clean(0);
        due("both, from what is off", fewest.best(0), 200);
        fewest.clean(0);
        due("one is cleaned away", fewest.best(0), 200);
        due("one is left", fewest.best(1), 1);
        PortraitRank few = of("P010002010010C091033C090233");
        due("one layer on 0 before two layers on 1", few.best(0), 1000);
    }

    private static void strokes() {
        PortraitRank x = of("P010012012012C091222C093333C092333C091113");
        due("two on three fingers", x.strokes(0, 0), 1222);
        due("layers", x.strokes(0, 1), 7);
        due("called already", x.strokes(1, 0), 0);
        due("no layers", x.strokes(1, 1), 0);
        due("finger 0 never points", x.strokes(2, 0), NONE);
        due("never", x.strokes(2, 1), NONE);
        due("one each", x.strokes(3, 0), 1110);
        due("three", x.strokes(3, 1), 3);
        due("strokes 4", x.strokes(4, 0), UNKNOWN);
        due("strokes 4, 2", x.strokes(4, 2), UNKNOWN);
        due("strokes 0, 2", x.strokes(0, 2), BAD);
        for (int bad : WILD) {
            due("strokes " + bad, x.strokes(bad, bad), UNKNOWN);
            due("strokes what " + bad, x.strokes(0, bad), BAD);
        }
        x.clean(0);
        due("one less", x.strokes(0, 0), 222);
        x.clean(0);
        due("cleaned beyond it", x.strokes(0, 0), NONE);
        PortraitRank wise = of("P002002002002C293333");
        due("of like ones the least", wise.strokes(0, 0), 2);
        PortraitRank shallow = of("P020002002002C293333");
        due("fewer layers beat a lesser number", shallow.strokes(0, 0), 1000);
        due("one layer", shallow.strokes(0, 1), 1);
        PortraitRank lowest = of("P002000000000C092333");
        due("both layers of finger 0", lowest.strokes(0, 0), 2000);
        due("two", lowest.strokes(0, 1), 2);
    }

    private static void peace() {
        PortraitRank x = of("P011011011001C090033C093300");
        due("peace", x.peace(0), 110);
        due("layers", x.peace(1), 2);
        due("peace 2", x.peace(2), BAD);
        for (int bad : WILD) {
            due("peace " + bad, x.peace(bad), BAD);
        }
        x.clean(2);
        due("one is gone already", x.peace(0), 100);
        x.clean(1);
        due("peace now", x.peace(0), 0);
        due("none needed", x.peace(1), 0);
        PortraitRank never = of(HAND + "C013333");
        due("always one", never.peace(0), NONE);
        due("always", never.peace(1), NONE);
        due("nobody", of(HAND).peace(0), 0);
    }

    private static void givesUp() {
        PortraitRank x = of("P010000000000C093333C310333C340333");
        due("does not wait", x.givesUp(0), LATE);
        due("unknown", x.givesUp(3), UNKNOWN);
        for (int bad : WILD) {
            due("givesUp " + bad, x.givesUp(bad), UNKNOWN);
        }
        x.night();
        due("nine nights", x.givesUp(0), 9);
        due("faithful", x.givesUp(1), NONE);
        x.night();
        due("eight nights", x.givesUp(0), 8);
        x.clean(0);
        due("faithful, not called", x.givesUp(1), 1);
        due("faithful with patience left", x.givesUp(2), 3);
        x.send();
        due("sent", x.givesUp(0), LATE);
        due("the night stays", x.about(4), 2);
    }

    private static void longest() {
        PortraitRank x = of(FLAT + "C013333C023333C313333");
        due("now", x.longest(0), 0);
        due("behind 1", x.longest(1), 3);
        due("behind 30", x.longest(30), 3);
        x.night();
        due("three now", x.longest(0), 3);
        x.night();
        due("two now", x.longest(0), 2);
        due("two for two more", x.longest(2), 2);
        due("three again", x.longest(3), 3);
        due("longest 31", x.longest(31), BAD);
        for (int bad : WILD) {
            due("longest " + bad, x.longest(bad), BAD);
        }
        due("the night stays", x.about(4), 2);
    }

    private static void judge() {
        PortraitRank x = of(FLAT + "C093333");
        due("a night", x.judge(1, 0), NONE);
        due("four nights", x.judge(4, 0), NONE);
        due("a night, sent", x.judge(2, 30), NONE);
        due("sent, a night", x.judge(2, 3000), 0);
        due("a night, sent, sent", x.judge(3, 3030), 2);
        due("a night, sent, a night, sent", x.judge(4, 300030), NONE);
        due("cleaned thrice", x.judge(3, 131313), 2);
        due("cleaned, painted, painted", x.judge(3, 122222), 2);
        due("cleaned and painted by turns", x.judge(4, 10201020), NONE);
        due("another finger is painted", x.judge(2, 1021), 1);
        for (int bad : new int[] {1, 9, 14, 19, 24, 31, 33, 40, 50, 99}) {
            due("judge 1, " + bad, x.judge(1, bad), 0);
        }
        due("the fourth", x.judge(4, 99), 3);
        due("the first of 8 figures", x.judge(4, 99999999), 0);
        due("no doings", x.judge(0, 0), BAD);
        due("five doings", x.judge(5, 0), BAD);
        due("3 figures", x.judge(1, 100), BAD);
        due("5 figures", x.judge(2, 10000), BAD);
        due("7 figures", x.judge(3, 1000000), BAD);
        due("9 figures", x.judge(4, 100000000), BAD);
        for (int bad : WILD) {
            due("judge " + bad, x.judge(bad, 0), BAD);
            due("judge row " + bad, x.judge(4, bad), BAD);
        }
        due("nothing is done", x.about(4) + x.about(5) + x.finger(0, 3), 0);
        x.night();
        x.clean(1);
        due("from what stands", x.judge(3, 302111), NONE);
        due("two more are too many", x.judge(2, 1111), 1);
    }

    private static void share() {
        PortraitRank x = of(HAND + "C093333C193333C091021C293333C391111");
        // called: plain 0, one-eyed 1, plain 2, wise 3
        due("called", x.about(3), 15);
        fraction("finger 0", x.share(0, true), x.share(0, false), 5, 4);
        fraction("finger 1", x.share(1, true), x.share(1, false), 5, 4);
        fraction("finger 2", x.share(2, true), x.share(2, false), 3, 4);
        fraction("finger 3", x.share(3, true), x.share(3, false), 3, 4);
        due("finger 4", x.share(4, true), UNKNOWN);
        for (int bad : WILD) {
            due("share " + bad, x.share(bad, false), UNKNOWN);
        }
        PortraitRank nobody = of(HAND + "C092222");
        fraction("nobody", nobody.share(1, true), nobody.share(1, false), 0, 1);
        PortraitRank two = of(FLAT + "C093333C090000");
        fraction("least terms", two.share(0, true), two.share(0, false), 1, 2);
        PortraitRank four = of(FLAT + "C193333C190022C193311C190303");
        fraction("a whole one", four.share(1, true), four.share(1, false), 2, 1);
        fraction("not looked at", four.share(2, true), four.share(2, false), 0, 1);
    }

    private static void see() {
        PortraitRank x = of(HAND + "C093333C193333");
        due("unknown cabman", x.see(2, 0, 0, 0), UNKNOWN);
        due("unknown finger", x.see(0, 4, 0, 0), UNKNOWN);
        due("unknown before bad", x.see(0, 4, 3, 2), UNKNOWN);
        due("bad n", x.see(0, 0, 3, 0), BAD);
        due("bad came", x.see(0, 0, 0, 2), BAD);
        for (int bad : WILD) {
            due("see " + bad, x.see(bad, 0, 0, 0), UNKNOWN);
            due("see finger " + bad, x.see(0, bad, bad, bad), UNKNOWN);
            due("see n " + bad, x.see(0, 0, bad, 0), BAD);
            due("see came " + bad, x.see(0, 0, 0, bad), BAD);
        }
        due("nothing is seen", x.about(6), 0);
        for (int count = 1; count <= 6; count++) {
            due("seen", x.see(count % 2, count % 4, count % 3, count % 2), count);
        }
        due("full", x.see(0, 0, 0, 0), FULL);
        due("bad before full", x.see(0, 0, 3, 0), BAD);
        due("unknown before full", x.see(5, 0, 0, 0), UNKNOWN);
        due("six", x.about(6), 6);
        due("no act", x.about(5), 0);
    }

    private static void unsee() {
        PortraitRank x = of(FLAT + "C090333");
        x.see(0, 0, 0, 0);
        x.see(0, 0, 0, 1);
        due("both can not be", x.under(0, 0), 0);
        due("unsee", x.unsee(), 2);
        due("nothing", x.about(6), 0);
        due("unsee again", x.unsee(), 0);
        due("all may be", x.under(0, 0), 27);
        due("seen anew", x.see(0, 0, 0, 0), 1);
        due("without the old ones", x.under(0, 0), 18);
    }

    private static void under() {
        PortraitRank x = of(HAND + "C092333C290333C131333");
        due("all rows", x.under(0, 0), 27);
        due("the least", x.under(0, 1), 0);
        x.see(0, 0, 0, 1);
        due("the upper one points", x.under(0, 0), 9);
        due("least is 18", x.under(0, 1), 18);
        due("other fingers", x.under(1, 0), 27);
        x.see(0, 0, 1, 0);
        due("the next one does not", x.under(0, 0), 6);
        due("still 18", x.under(0, 1), 18);
        x.see(1, 0, 2, 1);
        due("the lowest is DOWN: finger 2 points for the wise one", x.under(0, 0), 2);
        due("18 and 21", x.under(0, 1), 18);
        x.see(1, 0, 1, 0);
        due("the next one is UP", x.under(0, 0), 1);
        due("21", x.under(0, 1), 21);
        x.see(2, 1, 2, 1);
        due("any of finger 1 is well for the one-eyed one", x.under(1, 0), 27);
        x.see(2, 0, 0, 1);
        due("not both POINTING and UP", x.under(0, 0), 0);
        due("none", x.under(0, 1), NONE);
        due("under 4", x.under(4, 0), UNKNOWN);
        due("under 4, 2", x.under(4, 2), UNKNOWN);
        due("under 0, 2", x.under(0, 2), BAD);
        for (int bad : WILD) {
            due("under " + bad, x.under(bad, bad), UNKNOWN);
            due("under what " + bad, x.under(0, bad), BAD);
        }
        PortraitRank wise = of("P000000000000C293333");
        wise.see(0, 3, 1, 0);
        wise.see(0, 3, 2, 1);
        due("the finger itself points", wise.under(3, 0), 6);
        due("least", wise.under(3, 1), 2);
    }

    private static void underAsItIsNow() {
        PortraitRank x = of("P010000000000C090033C093333");
        x.see(0, 1, 0, 1);
        due("finger 0 agrees", x.under(1, 0), 9);
        x.clean(0);
        due("finger 0 does not agree now", x.under(1, 0), 0);
        x.paint(0);
        due("it does again", x.under(1, 0), 9);
        x.clean(1);
        due("what is off the finger itself is set aside", x.under(1, 0), 9);
        x.see(1, 1, 0, 0);
        due("one who always comes did not", x.under(1, 0), 0);
        tell(x, FLAT + "C090033");
        x.hall();
        due("cabman 1 is not any more", x.under(1, 0), 9);
        due("but seen stays", x.about(6), 2);
        tell(x, FLAT);
        x.hall();
        due("nobody is", x.under(1, 0), 27);
        tell(x, FLAT + "C090133C090000");
        x.hall();
        due("cabmen 0 and 1 are others now", x.under(1, 0), 9);
        due("least", x.under(1, 1), 9);
    }

    private static void rests() {
        PortraitRank x = of(HAND + "C093333C293333C113333C393333C213333");
        for (int one = 0; one < x.about(0); one++) {
            for (int other = 0; other < x.about(0); other++) {
                due("rests, how many", x.rests(one, other, 0), one == other ? BAD : 0);
                due("rests, the first", x.rests(one, other, 1), one == other ? BAD : NONE);
            }
        }
        due("what 2", x.rests(0, 1, 2), BAD);
        due("unknown other", x.rests(0, 5, 0), UNKNOWN);
        due("unknown cabman", x.rests(5, 0, 0), UNKNOWN);
        due("unknown before bad", x.rests(5, 5, 2), UNKNOWN);
        for (int bad : WILD) {
            due("rests " + bad, x.rests(bad, bad, bad), UNKNOWN);
            due("rests other " + bad, x.rests(0, bad, bad), UNKNOWN);
            due("rests what " + bad, x.rests(0, 1, bad), BAD);
        }
    }

    private static void wet() {
        PortraitRank x = of(HAND + "C093333C192333C193333C290333C293333");
        // called: 0, 2, 4
        due("called", x.about(3), 21);
        fraction("0 or more", x.wet(0, 5, true), x.wet(0, 5, false), 1, 1);
        fraction("1 of 3 by 5", x.wet(1, 5, true), x.wet(1, 5, false), 7, 8);
        fraction("2 of 3 by 5", x.wet(2, 5, true), x.wet(2, 5, false), 1, 2);
        fraction("3 of 3 by 5", x.wet(3, 5, true), x.wet(3, 5, false), 1, 8);
        fraction("3 of 3 by 3", x.wet(3, 3, true), x.wet(3, 3, false), 27, 1000);
        fraction("2 of 3 by 3", x.wet(2, 3, true), x.wet(2, 3, false), 27, 125);
        fraction("4 of 3", x.wet(4, 10, true), x.wet(4, 10, false), 0, 1);
        fraction("by 0", x.wet(1, 0, true), x.wet(1, 0, false), 0, 1);
        fraction("0 by 0", x.wet(0, 0, true), x.wet(0, 0, false), 1, 1);
        fraction("by 10", x.wet(3, 10, true), x.wet(3, 10, false), 1, 1);
        PortraitRank five = of(FIVE);
        fraction("5 of 5 by 9", five.wet(5, 9, true), five.wet(5, 9, false), 59049, 100000);
        fraction("5 of 5 by 2", five.wet(5, 2, true), five.wet(5, 2, false), 1, 3125);
        due("m 6", x.wet(6, 1, true), BAD);
        due("x 11", x.wet(0, 11, true), BAD);
        for (int bad : WILD) {
            due("wet " + bad, x.wet(bad, 1, true), BAD);
            due("wet x " + bad, x.wet(0, bad, false), BAD);
        }
    }

    private static void seed() {
        PortraitRank x = new PortraitRank();
        due("at first", x.seed(Long.MIN_VALUE), 0);
        due("then", x.seed(Long.MAX_VALUE), Long.MIN_VALUE);
        due("then", x.seed(-1L), Long.MAX_VALUE);
        due("then", x.seed(0L), -1L);
    }

    private static void years() {
        PortraitRank x = of(FLAT + "C093333C393333");
        due("m 0", x.years(0), BAD);
        due("m 31", x.years(31), BAD);
        for (int bad : WILD) {
            due("years " + bad, x.years(bad), BAD);
        }
        due("the seed stays when refused", x.seed(0L), 0);
        x.years(1);
        due("one step from 0", x.seed(0L), 1442695040888963407L);
        int together = 0;
        int waiting = 0;
        long value = 0L;
        for (int time = 0; time < 30; time++) {
            value = step(value);
            if (drawnBy(value) >= 8) {
                waiting = 1;
            }
            together += waiting;
        }
        PortraitRank faithful = of(FLAT + "C393333");
        due("thirty times", faithful.years(30), together);
        due("thirty steps", faithful.seed(0L), value);
        due("nobody came", faithful.about(1) + faithful.about(4) + faithful.about(5), 0);
        yearsOneByOne();
        yearsTwoByTwo();
    }

    private static long step(long value) {
        return value * 6364136223846793005L + 1442695040888963407L;
    }

    private static long drawnBy(long value) {
        return (value >>> 33) % 12;
    }

    /** Each draw by itself: seeds are looked for by which the first draw is the wanted one. */
    private static void yearsOneByOne() {
        for (int drawn = 0; drawn < 12; drawn++) {
            long start = 0L;
            while (drawnBy(step(start)) != drawn) {
                start++;
            }
            PortraitRank x = of("P010010010010C023333");
            x.seed(start);
            due("draw " + drawn, x.years(1), drawn >= 8 ? 1 : 0);
            x.night();
            x.seed(start);
            due("who waits is counted, draw " + drawn, x.years(1), 1);
            x.night();
            x.seed(start);
            due("who goes is not, draw " + drawn, x.years(1), drawn >= 8 ? 0 : 1);
            due("no layer goes off", x.finger(drawn % 4, 3), 0);
        }
    }

    /** A draw of a finger and then one of a night: who comes tells which finger was cleaned or painted. */
    private static void yearsTwoByTwo() {
        for (int drawn = 0; drawn < 8; drawn++) {
            long start = 0L;
            while (drawnBy(step(start)) != drawn || drawnBy(step(step(start))) < 8) {
                start++;
            }
            for (int finger = 0; finger < 4; finger++) {
                String calls = "3333".substring(0, finger) + "1" + "333".substring(finger);
                PortraitRank x = of("P010010010010C09" + calls);
                x.seed(start);
                due("cleaned by draw " + drawn, x.years(2), drawn == finger ? 1 : 0);
                for (int other = 0; other < 4; other++) {
                    x.clean(other);
                }
                x.seed(start);
                due("painted by draw " + drawn, x.years(2), drawn == finger || drawn == finger + 4 ? 0 : 1);
            }
        }
    }

    private static void keep() {
        PortraitRank x = of(FLAT + "C093333");
        due("keep 0", x.keep(0), 0);
        x.night();
        x.night();
        due("keep 1", x.keep(1), 2);
        due("acts stay", x.about(5), 2);
        due("keep 2", x.keep(2), UNKNOWN);
        for (int bad : WILD) {
            due("keep " + bad, x.keep(bad), UNKNOWN);
        }
        due("slot 0", x.again(0), 0);
        due("slot 1", x.again(1), 2);
        due("keep anew", x.keep(0), 2);
        x.night();
        due("as kept anew", x.again(0), 2);
    }

    private static void again() {
        PortraitRank x = of("P010000000000C093333C020333C390333");
        due("none kept", x.again(0), LATE);
        due("unknown", x.again(2), UNKNOWN);
        for (int bad : WILD) {
            due("again " + bad, x.again(bad), UNKNOWN);
        }
        x.night();
        x.night();
        x.night();
        x.night();
        x.clean(0);
        due("rank", x.about(2), 132);
        x.keep(1);
        due("slot 0 is not kept", x.again(0), LATE);
        x.paint(0);
        x.send();
        x.night();
        x.seed(9L);
        x.see(0, 0, 0, 1);
        due("again 1", x.again(1), 4);
        due("rank as kept", x.about(2), 132);
        due("waited 3", x.cabman(0, 6), 3);
        due("waited 0", x.cabman(1, 6), 0);
        due("off as kept", x.finger(0, 3), 1);
        due("no acts", x.about(5), 0);
        due("nothing to undo", x.undo(), LATE);
        due("seen stays", x.about(6), 1);
        due("seed stays", x.seed(0L), 9);
        x.night();
        due("gone on from", x.about(4), 5);
        due("kept still", x.again(1), 4);
    }

    private static PortraitRank busy() {
        PortraitRank x = of("P012120201012C023123C121033C230332C343333C023333");
        x.night();
        x.clean(2);
        x.night();
        x.see(0, 1, 1, 1);
        x.see(4, 2, 0, 0);
        x.keep(0);
        x.night();
        return x;
    }

    private static void askingChangesNothing() {
        PortraitRank x = busy();
        String before = stateOf(x);
        x.seed(12345L);
        int[] answers = new int[400];
        int[] once = new int[400];
        for (int round = 0; round < 2; round++) {
            int at = 0;
            for (int a = 0; a < 5; a++) {
                answers[at++] = x.best(a % 2);
                answers[at++] = x.strokes(a, a % 2);
                answers[at++] = x.peace(a % 2);
                answers[at++] = x.givesUp(a);
                answers[at++] = x.longest(a * 7);
                answers[at++] = x.judge(2, 1000 + a);
                answers[at++] = x.judge(3, 300010);
                answers[at++] = x.share(a % 4, true);
                answers[at++] = x.wet(a, 7, true);
                answers[at++] = x.call(1000 + a % 2);
                answers[at++] = x.rests(a, (a + 1) % 5, 0);
            }
            if (round == 0) {
                once = answers.clone();
            }
        }
        due("the same answers", Arrays.equals(once, answers) ? 1 : 0, 1);
        due("the seed", x.seed(5L), 12345L);
        x.years(30);
        due("the same state", stateOf(x).equals(before) ? 1 : 0, 1);
        due("undo goes on", x.undo(), 3);
        due("what was kept", x.again(0), 2);
    }

    private static void refusedChangesNothing() {
        PortraitRank x = busy();
        tell(x, FIVE + "x");
        String before = stateOf(x);
        x.write(65);
        x.write(-1);
        x.clean(4);
        x.paint(4);
        x.paint(0);
        x.keep(2);
        x.again(1);
        x.again(2);
        x.see(0, 0, 0, 2);
        x.see(5, 0, 0, 0);
        x.seed(4L);
        x.years(31);
        due("the same state", stateOf(x).equals(before) ? 1 : 0, 1);
        due("the seed", x.seed(0L), 4);
        due("the acts", x.undo(), 3);
        due("what was kept", x.again(0), 2);
    }
}
