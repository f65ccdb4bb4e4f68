import java.math.BigInteger;

/** Each sentence of the document's Terms that names a boundary case, at that boundary, in the document's order. */
public final class BoundaryTests extends Bench {
    private static final int[] KINDS = {0, 1, 2, 3};

    public static void main(String[] args) {
        atFirst();
        bytesOfTheText();
        everyByteAtEveryPlace();
        faultWithMoreBehind();
        faultByLength();
        layersInTurn();
        cabmenAsTold();
        fiveCabmen();
        madeAnew();
        shown();
        everyHandAndEveryKind();
        patience();
        patienceUncalled();
        faithful();
        whoWentDoesNotCome();
        fiveWait();
        theNight();
        cleaned();
        painted();
        sent();
        actsAreFourteen();
        everyActIsForgotten();
        actsBehindUndo();
        cleaningsFromEveryState();
        everyCleaningIsFound();
        best();
        bestOfLikeOnes();
        strokes();
        peace();
        calledThoughTheyWait();
        givesUp();
        longest();
        judgedPairs();
        judgedFigures();
        judgedChain();
        share();
        seen();
        seenOfCabmenThatAreNot();
        underEveryRow();
        underNone();
        underByFinger();
        underAsTheyAreNow();
        rests();
        wet();
        seed();
        seedWraps();
        yearsCount();
        yearsByUpperBits();
        yearsAtTheEnds();
        slots();
        fractions();
        constants();
        end();
    }

    private static String cabman(int kind, int patience, String calls) {
        return "C" + kind + patience + calls;
    }

    private static String four(int number, int base) {
        String figures = "000" + Integer.toString(number, base);
        return figures.substring(figures.length() - 4);
    }

    private static void atFirst() {
        sentence("At first all LAYERS are 0, there is nobody");
        PortraitRank x = new PortraitRank();
        for (int finger = 0; finger < 4; finger++) {
            for (int what = 0; what <= 4; what++) {
                due("finger " + finger + ", " + what, x.finger(finger, what), 0);
            }
        }
        for (int what = 0; what < 8; what++) {
            due("about " + what, x.about(what), 0);
        }
        due("an empty text", x.fault(), 0);
        due("nobody is called", x.call(2222), 0);
        due("the best of nobody", x.best(0), 0);
        due("peace of nobody", x.peace(0), 0);
        due("the longest rank of nobody", x.longest(30), 0);
        due("a night of nobody", x.night(), 0);
        due("it is an act", x.about(5), 1);
        due("the night", x.about(4), 1);
        due("years of nobody", x.years(30), 0);
        for (int finger = 0; finger < 4; finger++) {
            fraction("share", x.share(finger, true), x.share(finger, false), 0, 1);
            due("rows under it", x.under(finger, 0), 27);
            due("the least", x.under(finger, 1), 0);
        }
    }

    private static void bytesOfTheText() {
        sentence("THE TEXT is bytes (48 at most)");
        PortraitRank x = new PortraitRank();
        due("the first byte", x.write(255), 1);
        for (int length = 2; length <= 47; length++) {
            x.write(0);
        }
        due("47 bytes", x.about(7), 47);
        due("the 48th", x.write(0), 48);
        due("the 49th", x.write(0), FULL);
        due("the 49th again", x.write(255), FULL);
        due("48 bytes", x.about(7), 48);
        due("wiped when full", x.wipe(), 48);
        due("wiped when empty", x.wipe(), 0);
        due("the first byte again", x.write('P'), 1);
        due("none of the old ones is left", x.fault(), 1);
    }

    /** Which bytes may stand at a place of a hall of five. */
    private static String fitting(int place) {
        if (place < 13) {
            return place == 0 ? "P" : "012";
        }
        return new String[] {"C", "0123", "123456789", "0123", "0123", "0123", "0123"}[(place - 13) % 7];
    }

    private static boolean isWhole(int length) {
        return length >= 13 && (length - 13) % 7 == 0;
    }

    private static void everyByteAtEveryPlace() {
        sentence("FAULT: the place of the first byte by which THE TEXT can be no HALL");
        for (int place = 0; place < 48; place++) {
            for (int letter = 0; letter < 256; letter++) {
                boolean fits = fitting(place).indexOf(letter) >= 0;
                int due = !fits ? place : isWhole(place + 1) ? NONE : place + 1;
                due("byte " + letter + " at " + place, faultOf(FIVE.substring(0, place) + (char) letter), due);
            }
        }
    }

    private static void faultWithMoreBehind() {
        sentence("FAULT: whatever came behind it");
        for (int place = 0; place < 48; place++) {
            String ahead = FIVE.substring(0, place) + '4';
            if (fitting(place).indexOf('4') >= 0) {
                ahead = FIVE.substring(0, place) + '0';
            }
            due("what would stand behind it, at " + place, faultOf(ahead + FIVE.substring(place + 1)), place);
            due("a hall behind it, at " + place, faultOf((ahead + FIVE).substring(0, 48)), place);
            due("another fault behind it, at " + place, faultOf((ahead + "xxxx").substring(0, Math.min(48, place + 5))), place);
        }
    }

    private static void faultByLength() {
        sentence("FAULT: its length, if it is only not at its end; NONE: none");
        PortraitRank x = new PortraitRank();
        for (int length = 0; length <= 48; length++) {
            due(length + " bytes", x.fault(), isWhole(length) ? NONE : length);
            due("hall of " + length + " bytes", x.hall(), isWhole(length) ? (length - 13) / 7 : LATE);
            if (length < 48) {
                x.write(FIVE.charAt(length));
            }
        }
        due("fault changes nothing", x.about(7), 48);
    }

    private static void layersInTurn() {
        sentence("for each FINGER in turn three LAYERS (0 .. 2; the upper one first)");
        for (int place = 0; place < 12; place++) {
            for (int layer = 0; layer < 3; layer++) {
                char other = (char) ('0' + (layer + 1) % 3);
                String layers = "000000000000".replace('0', other);
                PortraitRank x = of("P" + layers.substring(0, place) + layer + layers.substring(place + 1));
                for (int at = 0; at < 12; at++) {
                    due("place " + place + ", at " + at, x.finger(at / 3, at % 3), at == place ? layer : other - '0');
                }
            }
        }
    }

    private static void cabmenAsTold() {
        sentence("Ckpabcd");
        for (int kind : KINDS) {
            for (int patience = 1; patience <= 9; patience++) {
                String calls = four((kind * 9 + patience) * 7, 4);
                PortraitRank x = of(FLAT + "C013333" + cabman(kind, patience, calls));
                due("kind", x.cabman(1, 0), kind);
                due("patience", x.cabman(1, 1), patience);
                for (int finger = 0; finger < 4; finger++) {
                    due("what calls it", x.cabman(1, 2 + finger), calls.charAt(finger) - '0');
                }
                due("does not wait", x.cabman(1, 6), NONE);
            }
        }
    }

    private static void fiveCabmen() {
        sentence("CABMEN are 0, 1, .. (5 at most), none or more, numbered as they are told");
        for (int count = 0; count <= 5; count++) {
            StringBuilder text = new StringBuilder(HAND);
            for (int cabman = 0; cabman < count; cabman++) {
                text.append(cabman(cabman % 4, 9 - cabman, "333" + cabman % 4));
            }
            PortraitRank x = of(text.toString());
            due("how many", x.about(0), count);
            for (int cabman = 0; cabman < count; cabman++) {
                due("kind of " + cabman, x.cabman(cabman, 0), cabman % 4);
                due("patience of " + cabman, x.cabman(cabman, 1), 9 - cabman);
                due("last finger of " + cabman, x.cabman(cabman, 5), cabman % 4);
            }
            due("one more", x.cabman(count, 0), UNKNOWN);
            due("its strokes", x.strokes(count, 0), UNKNOWN);
            due("when it gives up", x.givesUp(count), UNKNOWN);
            due("it is not seen", x.see(count, 0, 0, 0), UNKNOWN);
        }
        PortraitRank x = of(FIVE);
        due("a sixth", x.write('C'), FULL);
        due("five still", x.hall(), 5);
    }

    private static void madeAnew() {
        sentence("When THE HALL is made anew, no LAYER is off, nobody WAITS, THE NIGHT is 0");
        for (String text : new String[] {FIVE, FLAT, HAND + "C393333"}) {
            PortraitRank x = of(FIVE);
            nights(x, 3);
            for (int finger = 0; finger < 4; finger++) {
                x.clean(finger);
                x.clean(finger);
            }
            x.night();
            x.keep(0);
            x.keep(1);
            x.seed(Long.MIN_VALUE);
            x.see(4, 3, 2, 1);
            tell(x, text);
            x.hall();
            same("the scene", sceneOf(x), sceneOf(of(text)));
            due("no acts", x.about(5), 0);
            due("undo", x.undo(), LATE);
            due("slot 0 is gone", x.again(0), LATE);
            due("slot 1 is gone", x.again(1), LATE);
            due("seen stays", x.about(6), 1);
            due("the seed stays", x.seed(0L), Long.MIN_VALUE);
            due("the text stays", x.about(7), text.length());
        }
        PortraitRank fewer = of(FIVE);
        fewer.night();
        tell(fewer, FLAT + "C093333");
        fewer.hall();
        due("of five one is left", fewer.night(), 1);
        due("the others do not come any more", fewer.about(1), 1);
        due("nor are called", fewer.about(3), 1);
    }

    private static void shown() {
        sentence("SHOWN by a FINGER: its upper LAYER that is not off (the lowest never is)");
        for (int row = 0; row < 27; row++) {
            int[] layers = {row / 9, row / 3 % 3, row % 3};
            String told = "" + layers[0] + layers[1] + layers[2];
            PortraitRank x = of("P" + told + told + told + told);
            for (int finger = 0; finger < 4; finger++) {
                due("none is off", x.finger(finger, 4), layers[0]);
                due("the upper one is off", x.clean(finger), layers[1]);
                due("shown", x.finger(finger, 4), layers[1]);
                due("two are off", x.clean(finger), layers[2]);
                due("the lowest is not", x.clean(finger), LATE);
                due("shown", x.finger(finger, 4), layers[2]);
                due("off", x.finger(finger, 3), 2);
            }
        }
    }

    private static boolean isCalled(int kind, String calls, String hand) {
        boolean[] agrees = new boolean[4];
        for (int finger = 0; finger < 4; finger++) {
            agrees[finger] = calls.charAt(finger) == '3' || calls.charAt(finger) == hand.charAt(finger);
        }
        boolean two = agrees[0] && agrees[1];
        boolean all = two && agrees[2] && agrees[3];
        return kind == 1 ? two : kind == 2 ? all && hand.contains("2") : all;
    }

    private static void everyHandAndEveryKind() {
        sentence("A HAND CALLS a CABMAN");
        for (int number = 0; number < 256; number++) {
            String calls = four(number, 4);
            StringBuilder text = new StringBuilder(COUNTING);
            for (int kind : KINDS) {
                text.append(cabman(kind, 9, calls));
            }
            PortraitRank x = of(text.toString());
            for (int index = 0; index < 81; index++) {
                String hand = four(index, 3);
                int bits = 0;
                for (int kind : KINDS) {
                    bits |= isCalled(kind, calls, hand) ? 1 << kind : 0;
                }
                due(calls + " by the hand " + hand, x.call(Integer.parseInt(hand)), bits);
            }
        }
    }

    private static void patience() {
        sentence("who has waited as many NIGHTS as its PATIENCE, or more, goes");
        for (int kind = 0; kind < 3; kind++) {
            for (int patience = 1; patience <= 9; patience++) {
                PortraitRank x = of("P000000000222" + cabman(kind, patience, "3333"));
                for (int round = 0; round < 2; round++) {
                    due("comes", x.night(), 1);
                    due("has waited no night", x.cabman(0, 6), 0);
                    for (int waited = 1; waited < patience; waited++) {
                        due("waits", x.night(), 1);
                        due("has waited", x.cabman(0, 6), waited);
                    }
                    due("goes", x.night(), 0);
                    due("does not wait", x.cabman(0, 6), NONE);
                }
            }
        }
    }

    private static void patienceUncalled() {
        sentence("who WAITS and is not called any more goes by its PATIENCE alone");
        for (int kind : KINDS) {
            for (int patience = 1; patience <= 9; patience++) {
                PortraitRank x = of("P201000000000" + cabman(kind, patience, "2333"));
                due("comes", x.night(), 1);
                x.clean(0);
                due("nobody is called", x.about(3), 0);
                for (int waited = 1; waited < patience; waited++) {
                    due("waits", x.night(), 1);
                }
                due("goes", x.night(), 0);
                due("does not come again", x.night(), 0);
            }
        }
    }

    private static void faithful() {
        sentence("a FAITHFUL one only if the HAND does not CALL it");
        for (int patience = 1; patience <= 9; patience++) {
            PortraitRank x = of("P201000000000" + cabman(3, patience, "2333"));
            for (int waited = 0; waited <= 30; waited++) {
                due("waits", x.night(), 1);
                due("has waited", x.cabman(0, 6), waited);
            }
            x.clean(0);
            due("goes beyond its patience when it is not called", x.night(), 0);
            x.paint(0);
            due("comes again", x.night(), 1);
            due("as one that has waited no night", x.cabman(0, 6), 0);
        }
        PortraitRank just = of("P201000000000C332333");
        nights(just, 3);
        due("one less than its patience", just.cabman(0, 6), 2);
        just.clean(0);
        due("goes at its patience when it is not called", just.night(), 0);
    }

    private static void whoWentDoesNotCome() {
        sentence("but not one that went in this NIGHT");
        PortraitRank x = of(FLAT + "C013333C013333");
        due("both come", x.night(), 2);
        due("both go, and are called", x.night(), 0);
        due("called", x.about(3), 3);
        due("both come in the next one", x.night(), 2);
        x.send();
        due("who was sent comes in the next one, the other goes", x.night(), 1);
        due("that is 0", x.about(2), 1);
    }

    private static void fiveWait() {
        sentence("comes behind those that WAIT (5 at most do), by number");
        PortraitRank x = of("P010010010010C391333C393133C393313C393331C393333");
        due("the last one alone", x.night(), 1);
        due("rank", x.about(2), 5);
        int[] ranks = {54, 543, 5432, 54321};
        for (int finger = 3; finger >= 0; finger--) {
            x.clean(finger);
            due("one more", x.night(), 5 - finger);
            due("behind the others", x.about(2), ranks[3 - finger]);
        }
        due("five", x.night(), 5);
        due("bits", x.about(1), 31);
        due("in their order", x.about(2), 54321);
        for (int night = 0; night < 20; night++) {
            due("not more than five", x.night(), 5);
        }
        due("in their order", x.about(2), 54321);
        PortraitRank together = of(FIVE);
        due("five at once", together.night(), 5);
        due("by number", together.about(2), 12345);
    }

    private static void theNight() {
        sentence("THE NIGHT is one more");
        PortraitRank x = of(FIVE);
        for (int night = 1; night <= 200; night++) {
            x.night();
            due("night", x.about(4), night);
        }
        PortraitRank nobody = new PortraitRank();
        nights(nobody, 400);
        due("nights of nobody", nobody.about(4), 400);
        due("the night is kept", nobody.keep(1), 400);
        due("and gone on from", nobody.again(1), 400);
    }

    private static void cleaned() {
        sentence("CLEANED: the upper LAYER of a FINGER is off (2 at most are)");
        for (int finger = 0; finger < 4; finger++) {
            PortraitRank x = of(COUNTING);
            due("one", x.clean(finger), 1);
            due("two", x.clean(finger), 2);
            due("three", x.clean(finger), LATE);
            due("acts", x.about(5), 2);
            for (int other = 0; other < 4; other++) {
                due("off " + other, x.finger(other, 3), other == finger ? 2 : 0);
            }
        }
        PortraitRank all = of(COUNTING);
        for (int stroke = 0; stroke < 8; stroke++) {
            due("all fingers", all.clean(stroke % 4), 1 + stroke / 4);
        }
        for (int finger = 0; finger < 4; finger++) {
            due("none is left", all.clean(finger), LATE);
        }
        due("eight acts", all.about(5), 8);
    }

    private static void painted() {
        sentence("PAINTED: the one that went off last is on again");
        for (int finger = 0; finger < 4; finger++) {
            PortraitRank x = of(COUNTING);
            due("none is off", x.paint(finger), LATE);
            x.clean(finger);
            due("the only one", x.paint(finger), 0);
            due("none is off again", x.paint(finger), LATE);
            x.clean(finger);
            x.clean(finger);
            due("the last one", x.paint(finger), 1);
            due("off", x.finger(finger, 3), 1);
            due("the first one", x.paint(finger), 0);
            due("off", x.finger(finger, 3), 0);
            due("acts", x.about(5), 6);
        }
    }

    private static void sent() {
        sentence("SENT: the first one in the RANK goes");
        PortraitRank x = of(FIVE);
        x.night();
        int[] left = {2345, 345, 45, 5, 0};
        for (int cabman = 0; cabman < 5; cabman++) {
            due("who goes", x.send(), cabman);
            due("who is left", x.about(2), left[cabman]);
        }
        due("nobody", x.send(), LATE);
        due("acts", x.about(5), 6);
        due("all come again", x.night(), 5);
    }

    private static void actsAreFourteen() {
        sentence("ACTS are a row (14 at most; when it is full, the first one is forgotten)");
        for (int count = 0; count <= 40; count++) {
            PortraitRank x = of(FLAT + "C393333");
            nights(x, count);
            due("acts of " + count, x.about(5), Math.min(count, 14));
            for (int left = Math.min(count, 14) - 1; left >= 0; left--) {
                due("undo", x.undo(), left);
            }
            due("no more", x.undo(), LATE);
            due("the night it is", x.about(4), Math.max(0, count - 14));
        }
    }

    /** An act of that kind (a night, cleaned, painted, sent), where one waits and finger 2 has a layer off. */
    private static void actOf(PortraitRank x, int kind) {
        switch (kind) {
            case 0 -> due("a night", x.night(), 1);
            case 1 -> due("cleaned", x.clean(1), 1);
            case 2 -> due("painted", x.paint(2), 0);
            default -> due("sent", x.send(), 0);
        }
    }

    private static void everyActIsForgotten() {
        sentence("the last one can be undone, of each kind, and the first one is forgotten, of each kind");
        for (int kind = 0; kind < 4; kind++) {
            PortraitRank x = of(COUNTING + "C393333");
            x.clean(2);
            x.night();
            x.keep(0);
            x.again(0);
            String before = sceneOf(x);
            actOf(x, kind);
            String behind = sceneOf(x);
            due("is one act", x.about(5), 1);
            due("undone", x.undo(), 0);
            same("as it was", sceneOf(x), before);
            actOf(x, kind);
            for (int act = 0; act < 7; act++) {
                x.clean(3);
                x.paint(3);
            }
            due("it is forgotten by the fifteenth", x.about(5), 14);
            for (int left = 13; left >= 0; left--) {
                due("undone", x.undo(), left);
            }
            due("it can not be undone", x.undo(), LATE);
            same("as it was behind it", sceneOf(x), behind);
        }
    }

    private static void actsBehindUndo() {
        sentence("ACTS behind ones that were undone");
        PortraitRank x = of(FLAT + "C093333");
        nights(x, 16);
        x.undo();
        x.undo();
        x.undo();
        due("eleven", x.about(5), 11);
        due("night 13", x.about(4), 13);
        nights(x, 3);
        due("fourteen, nothing more is forgotten", x.about(5), 14);
        x.night();
        due("fourteen, one more is forgotten", x.about(5), 14);
        for (int left = 13; left >= 0; left--) {
            due("undo", x.undo(), left);
        }
        due("night 3", x.about(4), 3);
        due("no more", x.undo(), LATE);
    }

    private static void cleaningsFromEveryState() {
        sentence("A CLEANING: figures 0 .. 2 each, FINGER 0 first, no more than can be");
        String[] calls = {"3333", "2333", "1333", "3123", "2222"};
        for (int state = 0; state < 81; state++) {
            String off = four(state, 3);
            for (int start = -100; start < 2400; start += 250) {
                PortraitRank x = offBy(off, calls);
                for (int cleaning = start; cleaning < start + 250; cleaning++) {
                    due("call " + cleaning + " with " + off + " off", x.call(cleaning), dueBy(off, cleaning, calls));
                }
            }
        }
    }

    private static PortraitRank offBy(String off, String[] calls) {
        StringBuilder text = new StringBuilder(COUNTING);
        for (String one : calls) {
            text.append(cabman(0, 9, one));
        }
        PortraitRank x = of(text.toString());
        for (int finger = 0; finger < 4; finger++) {
            for (int layer = '0'; layer < off.charAt(finger); layer++) {
                x.clean(finger);
            }
        }
        return x;
    }

    private static int dueBy(String off, int cleaning, String[] calls) {
        if (cleaning < 0 || cleaning > 9999) {
            return BAD;
        }
        String figures = four(cleaning, 10);
        StringBuilder hand = new StringBuilder();
        for (int finger = 0; finger < 4; finger++) {
            int all = off.charAt(finger) - '0' + figures.charAt(finger) - '0';
            if (all > 2) {
                return BAD;
            }
            hand.append(all);
        }
        int bits = 0;
        for (int cabman = 0; cabman < calls.length; cabman++) {
            bits |= isCalled(0, calls[cabman], hand.toString()) ? 1 << cabman : 0;
        }
        return bits;
    }

    private static void everyCleaningIsFound() {
        sentence("BEST and STROKES look at each CLEANING that can be, and at no other");
        for (int index = 0; index < 81; index++) {
            String hand = four(index, 3);
            int layers = hand.chars().map(figure -> figure - '0').sum();
            for (int state = 0; state < 81; state++) {
                String off = four(state, 3);
                PortraitRank x = offBy(off, new String[] {hand});
                int more = Integer.parseInt(hand) - Integer.parseInt(off);
                int fewer = layers - off.chars().map(figure -> figure - '0').sum();
                boolean can = dueBy(off, more, new String[] {hand}) == 1;
                due("strokes to " + hand + " from " + off, x.strokes(0, 0), can ? more : NONE);
                due("layers to " + hand + " from " + off, x.strokes(0, 1), can ? fewer : NONE);
                due("best to " + hand + " from " + off, x.best(0), can ? more : 0);
                due("how many by " + hand + " from " + off, x.best(1), can ? 1 : 0);
            }
        }
    }

    private static void best() {
        sentence("BEST: the CLEANING by which most are called");
        PortraitRank nobody = of(COUNTING);
        due("of nobody", nobody.best(0), 0);
        due("how many", nobody.best(1), 0);
        PortraitRank never = of(FLAT + "C091111C092222");
        due("none can be called", never.best(0), 0);
        due("how many", never.best(1), 0);
        PortraitRank deepest = of("P001001001001C091111");
        due("all that can be", deepest.best(0), 2222);
        due("how many", deepest.best(1), 1);
        PortraitRank five = of("P001000000000C091333C091333C091333C091333C091333");
        due("five by two layers", five.best(0), 2000);
        due("how many", five.best(1), 5);
        five.clean(0);
        due("by one more", five.best(0), 1000);
        five.clean(0);
        due("by none more", five.best(0), 0);
        due("how many", five.best(1), 5);
        PortraitRank all = of(COUNTING + "C093333");
        for (int stroke = 0; stroke < 8; stroke++) {
            all.clean(stroke % 4);
        }
        due("nothing more can be", all.best(0), 0);
        due("how many", all.best(1), 1);
    }

    private static void bestOfLikeOnes() {
        sentence("BEST: of like ones the fewest LAYERS, then the least as a number");
        PortraitRank always = of(COUNTING + "C093333C393333");
        due("no layer where all are like", always.best(0), 0);
        PortraitRank wise = of("P001001001012C291333C293133C293313C293331");
        // Each needs a finger that points, which only finger 3 can, behind both of its layers.
        due("three by 2 + 2 + 2 + 2 layers", wise.best(0), 2222);
        due("how many", wise.best(1), 3);
        PortraitRank few = of("P010001001001C091000C090111");
        due("one layer on 0 (1000), not six on others (222)", few.best(0), 1000);
        due("how many", few.best(1), 1);
        PortraitRank like = of("P010010000000C091000C090100");
        due("of 100 and 1000 the least", like.best(0), 100);
        PortraitRank two = of("P001000000010C092333C091330C090331C092331");
        due("of 1 and 2000 the fewest layers", two.best(0), 1);
        PortraitRank pairs = of("P000000011011C090011C090011C090001C090010");
        due("two by 11, not one by 1 or 10", pairs.best(0), 11);
        due("how many", pairs.best(1), 2);
        PortraitRank number = of("P000000012012C090002C090011C090020");
        due("of 2, 11 and 20, two layers each, the least", number.best(0), 2);
        due("how many", number.best(1), 1);
    }

    private static void strokes() {
        sentence("STROKES: the CLEANING of fewest LAYERS by which it is called (of like ones the least); NONE");
        PortraitRank x = of("P001001001001C091111C090000C092333C091333C093331");
        due("all that can be", x.strokes(0, 0), 2222);
        due("layers", x.strokes(0, 1), 8);
        due("none is needed", x.strokes(1, 0), 0);
        due("layers", x.strokes(1, 1), 0);
        due("never", x.strokes(2, 0), NONE);
        due("layers", x.strokes(2, 1), NONE);
        due("finger 0", x.strokes(3, 0), 2000);
        due("finger 3", x.strokes(4, 0), 2);
        for (int stroke = 0; stroke < 8; stroke++) {
            x.clean(stroke % 4);
        }
        due("nothing more can be, and it is called", x.strokes(0, 0), 0);
        due("nothing more can be, and it is not", x.strokes(1, 0), NONE);
        due("layers", x.strokes(1, 1), NONE);
        PortraitRank like = of("P001001002001C293333");
        due("of 2, 20, 200 and 2000 the one that points", like.strokes(0, 0), 20);
        PortraitRank fewest = of("P021002000000C293333");
        due("1000 has fewer layers than 200", fewest.strokes(0, 0), 1000);
        due("layers", fewest.strokes(0, 1), 1);
        PortraitRank even = of("P012012012012C293333");
        due("of like ones the least", even.strokes(0, 0), 2);
    }

    private static void peace() {
        sentence("PEACE: likewise by which none is called");
        PortraitRank x = of("P001001001001C090333C093033C093303C093330");
        due("all that can be", x.peace(0), 2222);
        due("layers", x.peace(1), 8);
        for (int stroke = 0; stroke < 7; stroke++) {
            x.clean(stroke % 4);
        }
        due("one more", x.peace(0), 1);
        due("layers", x.peace(1), 1);
        x.clean(3);
        due("it is", x.peace(0), 0);
        due("layers", x.peace(1), 0);
        PortraitRank never = of(COUNTING + "C093333");
        due("never", never.peace(0), NONE);
        due("layers", never.peace(1), NONE);
        PortraitRank gone = of("P010000000000C091333C090333");
        due("one or the other is called", gone.peace(0), NONE);
        PortraitRank like = of("P010010010010C090000");
        due("of 1, 10, 100 and 1000 the least", like.peace(0), 1);
        PortraitRank fewest = of("P010000000001C090000");
        due("1000 has fewer layers than 2", fewest.peace(0), 1000);
        due("nobody", of(COUNTING).peace(0), 0);
        due("layers", of(COUNTING).peace(1), 0);
    }

    private static void calledThoughTheyWait() {
        sentence("who is called is asked, whether it WAITS already or not");
        PortraitRank x = of("P010000000000C393333C390333C390333C391333");
        for (int night = 0; night < 3; night++) {
            due("called", x.about(3), 7);
            due("call", x.call(0), 7);
            due("call by a layer", x.call(1000), 9);
            due("best", x.best(0), 0);
            due("how many", x.best(1), 3);
            for (int cabman = 0; cabman < 4; cabman++) {
                due("strokes", x.strokes(cabman, 0), cabman == 3 ? 1000 : 0);
            }
            due("peace", x.peace(0), NONE);
            fraction("share", x.share(3, true), x.share(3, false), 3, 4);
            fraction("wet", x.wet(3, 10, true), x.wet(3, 10, false), 1, 1);
            fraction("wet by 5", x.wet(3, 5, true), x.wet(3, 5, false), 1, 8);
            due("all that are called come, or wait", x.night(), 3);
        }
        PortraitRank leaving = of("P010000000000C090333");
        leaving.night();
        leaving.clean(0);
        due("it waits", leaving.about(1), 1);
        due("it is not called", leaving.about(3), 0);
        due("so there is peace", leaving.peace(0), 0);
        due("best", leaving.best(1), 1);
        due("by one more layer, where it is DOWN again", leaving.best(0), 1000);
        fraction("wet", leaving.wet(1, 10, true), leaving.wet(1, 10, false), 0, 1);
        fraction("share", leaving.share(0, true), leaving.share(0, false), 0, 1);
    }

    private static void givesUp() {
        sentence("GIVES UP: in how many NIGHTS (1 .. 20) it goes, if nothing else is done; NONE");
        for (int patience = 1; patience <= 9; patience++) {
            PortraitRank x = of("P201000000000" + cabman(0, patience, "3333") + cabman(3, patience, "2333"));
            due("before it comes", x.givesUp(0), LATE);
            for (int left = patience; left >= 1; left--) {
                x.night();
                due("nights left", x.givesUp(0), left);
                due("faithful and called", x.givesUp(1), NONE);
                x.clean(0);
                due("faithful and not called", x.givesUp(1), left);
                x.undo();
            }
            x.night();
            due("it went", x.givesUp(0), LATE);
            nights(x, 25);
            due("faithful and called, beyond its patience by far", x.givesUp(1), NONE);
            x.clean(0);
            due("faithful, beyond its patience, not called", x.givesUp(1), 1);
            x.night();
            due("it went", x.givesUp(1), LATE);
        }
    }

    private static void longest() {
        sentence("LONGEST for n (0 .. 30): how many WAIT at most behind 0 .. n NIGHTS");
        PortraitRank x = of("P010010010000C013313C023313C023133C031333C043333");
        x.night();
        x.clean(0);
        x.night();
        x.clean(1);
        nights(x, 2);
        x.clean(2);
        due("three wait", x.about(2), 543);
        due("now", x.longest(0), 3);
        due("behind 1 night", x.longest(1), 3);
        due("behind 22", x.longest(22), 4);
        due("all five behind 23", x.longest(23), 5);
        due("behind 29", x.longest(29), 5);
        due("behind 30", x.longest(30), 5);
        nights(x, 22);
        due("four have waited at most", x.longest(0) < 5 ? 1 : 0, 1);
        due("the 23rd", x.night(), 5);
        PortraitRank fading = of("P100000000000C091333C011333");
        fading.night();
        fading.clean(0);
        due("now is counted", fading.longest(0), 2);
        due("and is the most", fading.longest(30), 2);
        nights(fading, 9);
        due("all have gone", fading.longest(30), 0);
    }

    /** Off 0, 1, 2, 0; nobody waits, one is called. */
    private static PortraitRank forJudging() {
        PortraitRank x = of(COUNTING + "C093333");
        x.clean(1);
        x.clean(2);
        x.clean(2);
        return x;
    }

    private static boolean canBe(int pair, boolean behindANight) {
        return switch (pair) {
            case 0, 10, 11, 13, 21, 22 -> true;
            case 30 -> behindANight;
            default -> false;
        };
    }

    private static void judgedPairs() {
        sentence("JUDGED: told as two figures each: the place of the first that can not be; NONE: none");
        for (int n = 1; n <= 4; n++) {
            int unit = 1;
            for (int place = n - 1; place >= 0; place--, unit *= 100) {
                PortraitRank x = forJudging();
                for (int pair = 0; pair < 100; pair++) {
                    due("pair " + pair + " as number " + place + " of " + n, x.judge(n, pair * unit),
                        canBe(pair, place > 0) ? NONE : place);
                }
            }
        }
    }

    private static void judgedFigures() {
        sentence("JUDGED: n doings (1 .. 4); row (0 or more, 2 n figures at most)");
        int[] above = {1, 100, 10000, 1000000, 100000000};
        PortraitRank x = forJudging();
        for (int n = 1; n <= 4; n++) {
            due("the greatest row of " + n, x.judge(n, above[n] - 1), 0);
            due("one figure too many for " + n, x.judge(n, above[n]), BAD);
            due("the same figures and one ahead", x.judge(n, above[n] + 10), BAD);
            due("one figure less than can be", x.judge(n, above[n] / 10), NONE);
            due("no figures", x.judge(n, 0), NONE);
            due("less than none", x.judge(n, -1), BAD);
            due("the least", x.judge(n, LEAST), BAD);
            due("the greatest", x.judge(n, GREATEST), BAD);
        }
        due("no doings", x.judge(0, 0), BAD);
        due("five doings", x.judge(5, 0), BAD);
        due("less than none", x.judge(-1, 0), BAD);
        due("the least n", x.judge(LEAST, 0), BAD);
        due("the greatest n", x.judge(GREATEST, 0), BAD);
    }

    private static void judgedChain() {
        sentence("JUDGED: each doing behind those ahead of it");
        PortraitRank x = forJudging();
        due("two of finger 0 can be cleaned, not three", x.judge(3, 101010), 2);
        due("two can", x.judge(2, 1010), NONE);
        due("two of finger 2 can be painted, not three", x.judge(3, 222222), 2);
        due("painted and cleaned", x.judge(4, 22221212), NONE);
        due("one waits behind a night, not two", x.judge(3, 3030), 2);
        due("sent, and comes again", x.judge(4, 300030), NONE);
        due("the first of several", x.judge(4, 12302099), 0);
        due("the fourth", x.judge(4, 101199), 3);
        due("the fourth, cleaned once too often", x.judge(4, 1313), NONE);
        due("the fourth of one finger", x.judge(4, 131313), 3);
    }

    private static void share() {
        sentence("SHARE of a FINGER: by how many in the mean");
        PortraitRank five = of(FIVE);
        PortraitRank eyes = of(FLAT + "C193333C193333C193333C193333C193333");
        for (int finger = 0; finger < 4; finger++) {
            fraction("of five", five.share(finger, true), five.share(finger, false), 5, 4);
            fraction("of one-eyed ones", eyes.share(finger, true), eyes.share(finger, false), finger < 2 ? 5 : 0, finger < 2 ? 2 : 1);
        }
        for (int count = 0; count <= 4; count++) {
            PortraitRank x = of(FIVE.substring(0, 13 + 7 * count));
            int above = count == 4 || count == 2 ? 1 : count;
            int below = count == 0 || count == 4 ? 1 : count == 2 ? 2 : 4;
            fraction(count + " called", x.share(3, true), x.share(3, false), above, below);
        }
        PortraitRank wise = of("P222000000000C293333C290000");
        for (int finger = 0; finger < 4; finger++) {
            fraction("of a wise one", wise.share(finger, true), wise.share(finger, false), 1, 4);
        }
        wise.clean(0);
        fraction("pointing still", wise.share(0, true), wise.share(0, false), 1, 4);
        PortraitRank mixed = of(FLAT + "C093333C193333");
        fraction("finger 0 of a plain and a one-eyed one", mixed.share(0, true), mixed.share(0, false), 3, 4);
        fraction("finger 2", mixed.share(2, true), mixed.share(2, false), 1, 4);
    }

    private static void seen() {
        sentence("SEEN: 6 such at most, none at first");
        PortraitRank x = of(FIVE);
        due("none at first", x.about(6), 0);
        for (int count = 1; count <= 6; count++) {
            due("number " + count, x.see(0, 3, 2, 1), count);
            due("there are", x.about(6), count);
        }
        due("the seventh", x.see(0, 3, 2, 1), FULL);
        due("six", x.about(6), 6);
        due("unseen", x.unsee(), 6);
        due("none", x.about(6), 0);
        due("unseen again", x.unsee(), 0);
        due("the first again", x.see(4, 0, 0, 0), 1);
        sentence("SEEN: n (0 .. 2), came (0, 1)");
        for (int finger = 0; finger < 4; finger++) {
            String wants = "3333".substring(0, finger) + "2" + "333".substring(finger);
            for (int n = 0; n <= 2; n++) {
                for (int came = 0; came <= 1; came++) {
                    PortraitRank one = of(FLAT + cabman(0, 9, wants));
                    one.see(0, finger, n, came);
                    due("rows", one.under(finger, 0), came == 1 ? 9 : 18);
                    int least = came == 0 ? 0 : n == 0 ? 18 : n == 1 ? 6 : 2;
                    due("the least", one.under(finger, 1), least);
                    due("another finger", one.under((finger + 1) % 4, 0), 27);
                }
            }
        }
        sentence("SEEN: the sixth one counts too");
        PortraitRank last = of(FLAT + "C090333");
        for (int count = 0; count < 5; count++) {
            last.see(0, 0, 0, 1);
        }
        due("five that are like", last.under(0, 0), 9);
        last.see(0, 0, 0, 0);
        due("a sixth that is not", last.under(0, 0), 0);
        last.see(0, 0, 1, 0);
        due("a seventh is not looked at", last.unsee(), 6);
    }

    private static void seenOfCabmenThatAreNot() {
        sentence("of CABMEN that there are not any more nothing is looked at");
        PortraitRank x = of(FLAT + "C093333C093333C093333C093333C093333");
        x.see(4, 0, 0, 0);
        due("it always comes, so none", x.under(0, 0), 0);
        due("none", x.under(0, 1), NONE);
        for (int count = 4; count >= 0; count--) {
            tell(x, FLAT + "C093333C093333C093333C093333".substring(0, 7 * count));
            due("fewer", x.hall(), count);
            due("all rows", x.under(0, 0), 27);
            due("the least", x.under(0, 1), 0);
            due("it is SEEN still", x.about(6), 1);
        }
    }

    private static void underEveryRow() {
        sentence("UNDER: rows of three LAYERS (27, told as 9 times the upper one, 3 times the next one, and the lowest)");
        for (int finger = 0; finger < 4; finger++) {
            StringBuilder text = new StringBuilder(FLAT);
            for (int layer = 0; layer < 3; layer++) {
                text.append(cabman(0, 9, "3333".substring(0, finger) + layer + "333".substring(finger)));
            }
            for (int row = 0; row < 27; row++) {
                PortraitRank x = of(text.toString());
                x.see(row / 9, finger, 0, 1);
                due("nine", x.under(finger, 0), 9);
                due("the least", x.under(finger, 1), row / 9 * 9);
                x.see(row / 3 % 3, finger, 1, 1);
                due("three", x.under(finger, 0), 3);
                due("the least", x.under(finger, 1), row / 3 * 3);
                x.see(row % 3, finger, 2, 1);
                due("one", x.under(finger, 0), 1);
                due("that row", x.under(finger, 1), row);
                for (int other = 0; other < 4; other++) {
                    due("another finger", x.under(other, 0), other == finger ? 1 : 27);
                }
            }
        }
    }

    private static void underNone() {
        sentence("UNDER: so that all that is SEEN with it is so; NONE");
        PortraitRank x = of(FLAT + "C090333C091333C092333C091133");
        x.see(3, 0, 0, 1);
        due("another finger does not agree, so it can not have come", x.under(0, 0), 0);
        due("none", x.under(0, 1), NONE);
        x.unsee();
        x.see(3, 0, 0, 0);
        due("nor does it say anything that it did not", x.under(0, 0), 27);
        x.see(0, 0, 1, 0);
        x.see(1, 0, 1, 0);
        due("not DOWN, not UP", x.under(0, 0), 9);
        due("so POINTING", x.under(0, 1), 6);
        x.see(2, 0, 1, 0);
        due("nor POINTING", x.under(0, 0), 0);
        due("none", x.under(0, 1), NONE);
        x.unsee();
        due("all again", x.under(0, 0), 27);
        due("the least", x.under(0, 1), 0);
    }

    private static void underByFinger() {
        sentence("UNDER: all that is SEEN with it, whatever else is SEEN ahead of it");
        PortraitRank x = of(FLAT + "C090033C091133C093333");
        x.see(2, 1, 0, 0);
        x.see(0, 0, 0, 1);
        due("what is SEEN with another finger is not looked at", x.under(0, 0), 9);
        due("that other finger", x.under(1, 0), 0);
        x.see(2, 0, 0, 0);
        due("one who always comes did not", x.under(0, 0), 0);
        tell(x, FLAT + "C090033");
        x.hall();
        x.see(0, 0, 1, 1);
        due("nor is one of a cabman that is not any more", x.under(0, 0), 3);
        due("nor with the other finger", x.under(1, 0), 27);
    }

    private static void underAsTheyAreNow() {
        sentence("SEEN: all others of FINGERS as they are now, whatever was asked just before");
        PortraitRank x = of(COUNTING + "C093000C093222");
        x.see(0, 0, 0, 1);
        due("by a cleaning others would not agree", x.call(222), 2);
        due("they do now", x.under(0, 0), 27);
        for (int stroke = 0; stroke < 6; stroke++) {
            x.clean(1 + stroke % 3);
        }
        due("they do not now", x.under(0, 0), 0);
        x.unsee();
        x.see(1, 0, 0, 1);
        x.share(3, true);
        due("others do now", x.under(0, 0), 27);
        x.paint(3);
        due("one does not now", x.under(0, 0), 0);
        x.undo();
        due("undone, it does again", x.under(0, 0), 27);
        x.clean(0);
        x.clean(0);
        due("what is off that finger itself is set aside", x.under(0, 0), 27);
    }

    private static void rests() {
        sentence("RESTS: pairs in which neither has more by another wait alone; NONE");
        for (int kind : KINDS) {
            for (int other : KINDS) {
                PortraitRank x = of(HAND + cabman(kind, 1, "3333") + cabman(other, 9, "0000"));
                due("how many", x.rests(0, 1, 0), 0);
                due("the first", x.rests(0, 1, 1), NONE);
                due("how many, the other way", x.rests(1, 0, 0), 0);
                due("the first, the other way", x.rests(1, 0, 1), NONE);
                due("both are 0", x.rests(0, 0, 0), BAD);
                due("both are 1", x.rests(1, 1, 1), BAD);
                due("other is not", x.rests(0, 2, 0), UNKNOWN);
                due("one is not", x.rests(2, 0, 0), UNKNOWN);
                due("both are one that is not", x.rests(2, 2, 0), UNKNOWN);
            }
        }
    }

    private static void wet() {
        sentence("WET: that m (0 .. 5) or more come, by x tenths (0 .. 10)");
        long[][] choose = {{1}, {1, 1}, {1, 2, 1}, {1, 3, 3, 1}, {1, 4, 6, 4, 1}, {1, 5, 10, 10, 5, 1}};
        for (int called = 0; called <= 5; called++) {
            PortraitRank x = of(FIVE.substring(0, 13 + 7 * called));
            for (int m = 0; m <= 5; m++) {
                for (int tenths = 0; tenths <= 10; tenths++) {
                    BigInteger above = BigInteger.ZERO;
                    for (int come = m; come <= called; come++) {
                        above = above.add(BigInteger.valueOf(choose[called][come])
                            .multiply(BigInteger.valueOf(tenths).pow(come))
                            .multiply(BigInteger.valueOf(10 - tenths).pow(called - come)));
                    }
                    BigInteger below = BigInteger.TEN.pow(called);
                    BigInteger common = above.gcd(below);
                    fraction(m + " of " + called + " by " + tenths, x.wet(m, tenths, true), x.wet(m, tenths, false),
                        above.divide(common).intValueExact(), below.divide(common).intValueExact());
                }
            }
        }
    }

    private static void seed() {
        sentence("THE SEED, a long; 0 at first");
        PortraitRank x = new PortraitRank();
        long[] seeds = {Long.MIN_VALUE, Long.MAX_VALUE, -1L, 1L, 1L << 32, -(1L << 32), GREATEST, LEAST, Long.MIN_VALUE + 1, 0L};
        long before = 0L;
        for (long seed : seeds) {
            due("what it was", x.seed(seed), before);
            before = seed;
        }
        due("the same again", x.seed(0L), 0L);
    }

    private static long step(long seed) {
        return BigInteger.valueOf(seed).multiply(new BigInteger("6364136223846793005"))
            .add(new BigInteger("1442695040888963407")).longValue();
    }

    private static void seedWraps() {
        sentence("x times 6364136223846793005 and 1442695040888963407 (64 bits, wrapping)");
        PortraitRank x = new PortraitRank();
        for (long seed : new long[] {0L, 1L, -1L, 2L, Long.MAX_VALUE, Long.MIN_VALUE, 1L << 62, 0x123456789abcdefL, LEAST, GREATEST}) {
            x.seed(seed);
            x.years(1);
            due("a step from " + seed, x.seed(seed), step(seed));
            x.years(2);
            due("two steps from " + seed, x.seed(0L), step(step(seed)));
        }
    }

    private static void yearsCount() {
        sentence("YEARS by THE SEED: m times (1 .. 30)");
        for (long start : new long[] {0L, -1L, Long.MIN_VALUE, 77L}) {
            long seed = start;
            int together = 0;
            int waits = 0;
            for (int m = 1; m <= 30; m++) {
                seed = step(seed);
                waits = drawn(seed) >= 8 ? 1 : waits;
                together += waits;
                PortraitRank x = of(FLAT + "C313333");
                x.seed(start);
                due(m + " times from " + start, x.years(m), together);
                due("the seed behind " + m + " times", x.seed(0L), seed);
            }
            PortraitRank refused = of(FLAT + "C313333");
            refused.seed(start);
            due("31 times", refused.years(31), BAD);
            due("0 times", refused.years(0), BAD);
            due("the seed stays", refused.seed(0L), start);
        }
    }

    /** What is left of the upper 31 bits by 12, where all 64 are taken as one number that is never negative. */
    private static int drawn(long seed) {
        BigInteger bits = BigInteger.valueOf(seed).mod(BigInteger.TWO.pow(64));
        return bits.divide(BigInteger.TWO.pow(33)).mod(BigInteger.valueOf(12)).intValue();
    }

    /** A seed whose next steps draw what is wanted, with the first one's upper bit as wanted. */
    private static long seedFor(boolean negative, int... wanted) {
        for (long start = 1; start < 10_000_000; start++) {
            long seed = step(start);
            boolean fits = seed < 0 == negative;
            for (int place = 0; place < wanted.length && fits; place++) {
                fits = drawn(seed) == wanted[place];
                seed = step(seed);
            }
            if (fits) {
                return start;
            }
        }
        due("a seed for that", 0, 1);
        return 0;
    }

    private static void yearsByUpperBits() {
        sentence("what is left of its upper 31 bits by 12");
        for (int number = 0; number < 2; number++) {
            boolean negative = number == 1;
            for (int draw = 0; draw < 12; draw++) {
                PortraitRank x = of(COUNTING + "C393333");
                x.seed(seedFor(negative, draw));
                due("draw " + draw + " is a night from 8 on", x.years(1), draw >= 8 ? 1 : 0);
            }
            for (int finger = 0; finger < 4; finger++) {
                String calls = "3333".substring(0, finger) + "1" + "333".substring(finger);
                PortraitRank x = of(COUNTING + cabman(0, 9, calls));
                x.seed(seedFor(negative, finger, 8));
                due("cleaned, then a night", x.years(2), 1);
                x.clean(finger);
                x.clean(finger);
                x.seed(seedFor(negative, finger + 4, 11));
                due("painted, then a night", x.years(2), 1);
            }
        }
    }

    private static void yearsAtTheEnds() {
        sentence("that FINGER is CLEANED, if it can be; PAINTED, if it can be");
        for (int finger = 0; finger < 4; finger++) {
            String calls = "3333".substring(0, finger) + "2" + "333".substring(finger);
            PortraitRank x = of(COUNTING + cabman(0, 9, calls));
            x.clean(finger);
            x.clean(finger);
            x.seed(seedFor(false, finger, 9));
            due("not a third one, and then a night", x.years(2), 1);
            x.seed(seedFor(false, finger, finger + 4, 9));
            due("painted once, so not shown", x.years(3), 0);
            String upper = "3333".substring(0, finger) + "0" + "333".substring(finger);
            PortraitRank up = of(COUNTING + cabman(0, 9, upper));
            up.seed(seedFor(false, finger + 4, 10));
            due("not painted where none is off, and then a night", up.years(2), 1);
            up.seed(seedFor(false, finger + 4, finger, 10));
            due("cleaned once, so not shown", up.years(3), 0);
        }
        sentence("YEARS: how many WAIT, each time, together");
        PortraitRank waits = of(FIVE);
        waits.night();
        waits.seed(seedFor(false, 0, 4, 1));
        due("five, three times", waits.years(3), 15);
        waits.seed(seedFor(false, 8, 0, 8));
        due("four, four, four", waits.years(3), 12);
    }

    private static void slots() {
        sentence("SLOTS 0 .. 1 keep what is off, who WAITS, how long, in which order, THE NIGHT (no ACTS when one goes on)");
        for (int slot = 0; slot < 2; slot++) {
            PortraitRank x = of("P010000000000C091333C393333C023333");
            due("none was kept", x.again(slot), LATE);
            due("kept at first", x.keep(slot), 0);
            nights(x, 2);
            x.clean(0);
            x.night();
            due("in which order", x.about(2), 21);
            String scene = sceneOf(x);
            due("kept anew", x.keep(slot), 3);
            due("acts stay", x.about(5), 4);
            due("the other was not", x.again(1 - slot), LATE);
            x.send();
            x.paint(0);
            nights(x, 2);
            due("gone on from", x.again(slot), 3);
            same("as it was kept", sceneOf(x), scene);
            due("no acts", x.about(5), 0);
            due("nothing to undo", x.undo(), LATE);
            x.night();
            due("acts behind it", x.about(5), 1);
            due("undone", x.undo(), 0);
            same("as it was kept", sceneOf(x), scene);
            x.night();
            due("gone on from once more", x.again(slot), 3);
            same("as it was kept", sceneOf(x), scene);
            x.keep(1 - slot);
            x.send();
            x.keep(slot);
            due("each by itself", x.again(1 - slot), 3);
            same("as it was kept", sceneOf(x), scene);
        }
    }

    private static void fractions() {
        sentence("FRACTIONS are told above (upper = true), below, in least terms");
        PortraitRank x = of(FIVE);
        fraction("nothing", x.wet(5, 0, true), x.wet(5, 0, false), 0, 1);
        fraction("all", x.wet(5, 10, true), x.wet(5, 10, false), 1, 1);
        fraction("the greatest below", x.wet(5, 1, true), x.wet(5, 1, false), 1, 100000);
        fraction("the greatest above", x.wet(1, 9, true), x.wet(1, 9, false), 99999, 100000);
        fraction("in least terms", x.wet(5, 5, true), x.wet(5, 5, false), 1, 32);
        fraction("more than one", x.share(0, true), x.share(0, false), 5, 4);
        PortraitRank whole = of(FLAT + "C193333C193333");
        fraction("a whole one", whole.share(0, true), whole.share(0, false), 1, 1);
        fraction("none", whole.share(3, true), whole.share(3, false), 0, 1);
    }

    private static void constants() {
        sentence("REFUSALS: UNKNOWN -1, BAD -2, LATE -3, FULL -4; NONE is -9");
        due("UNKNOWN", PortraitRank.UNKNOWN, -1);
        due("BAD", PortraitRank.BAD, -2);
        due("LATE", PortraitRank.LATE, -3);
        due("FULL", PortraitRank.FULL, -4);
        due("NONE", PortraitRank.NONE, -9);
    }
}
