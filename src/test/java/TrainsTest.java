/** Promises 10 and 17: train, ofTrain; and the step of a second in which trains are served. */
public final class TrainsTest {
    private static final Due DUE = new Due("TrainsTest");

    public static void main(String[] args) {
        wrong();
        numbers();
        alight();
        alightAsFarAsRoom();
        alightAsFarAsNumbers();
        fourASecond();
        firstWhoCameFirst();
        notTheirs();
        staysLonger();
        staysNotLonger();
        passingThrough();
        DUE.end();
    }

    /** Street 0, platform 1, and a door with a step of 1 and the rate 9. */
    private static CrushLoad doorToPlatform() {
        CrushLoad x = new CrushLoad();
        x.room(CrushLoad.STREET, 1);
        x.room(CrushLoad.PLATFORM, 20);
        x.link(CrushLoad.DOOR, 0, 1, 1, 9);
        return x;
    }

    private static void crowd(CrushLoad x, int many) {
        for (int i = 0; i < many; i++) {
            x.enter(0, 1, false, true, CrushLoad.NONE);
        }
    }

    private static void tells(String label, CrushLoad x, int train, int... all) {
        for (int what = 0; what < all.length; what++) {
            DUE.is("P17 " + label + ", " + what, x.ofTrain(train, what), all[what]);
        }
    }

    private static void wrong() {
        CrushLoad x = doorToPlatform();
        x.room(CrushLoad.HALL, 5);
        DUE.outOfBounds("P10 no platform", () -> x.train(3, 0, 0, 0, 1));
        DUE.outOfBounds("P10 platform -1", () -> x.train(-1, 0, 0, 0, 1));
        DUE.outOfBounds("P10 no street, of a hall", () -> x.train(2, 99, 3, 0, 1));
        DUE.outOfBounds("P10 street -1", () -> x.train(1, 0, -1, 0, 1));
        DUE.wrongArgument("P10 at a hall", () -> x.train(2, 0, 0, 0, 1));
        DUE.wrongArgument("P10 at a street", () -> x.train(0, 0, 0, 0, 1));
        DUE.wrongArgument("P10 to a hall", () -> x.train(1, 0, 2, 0, 1));
        DUE.wrongArgument("P10 to a platform", () -> x.train(1, 0, 1, 0, 1));
        DUE.wrongArgument("P10 alight -1", () -> x.train(1, -1, 0, 0, 1));
        DUE.wrongArgument("P10 alight 21", () -> x.train(1, 21, 0, 0, 1));
        DUE.wrongArgument("P10 space -1", () -> x.train(1, 0, 0, -1, 1));
        DUE.wrongArgument("P10 space 100", () -> x.train(1, 0, 0, 100, 1));
        DUE.wrongArgument("P10 stays 0", () -> x.train(1, 0, 0, 0, 0));
        DUE.wrongArgument("P10 stays 10", () -> x.train(1, 0, 0, 0, 10));
        DUE.is("P10 what throws changes nothing", x.train(1, 20, 0, 99, 9), 0);
        DUE.wrongState("P10 one is there", () -> x.train(1, 0, 0, 0, 1));
        DUE.wrongArgument("P10 one is there, and space 100", () -> x.train(1, 0, 0, 100, 1));
        DUE.outOfBounds("P17 no train 1", () -> x.ofTrain(1, 0));
        DUE.outOfBounds("P17 no train -1, ahead of what", () -> x.ofTrain(-1, 4));
        DUE.wrongArgument("P17 what 4", () -> x.ofTrain(0, 4));
        DUE.wrongArgument("P17 what -1", () -> x.ofTrain(0, -1));
    }

    private static void numbers() {
        CrushLoad x = doorToPlatform();
        for (int train = 0; train < 12; train++) {
            DUE.is("P10 train " + train, x.train(1, 0, 0, 0, 1), train);
            x.pass(1);
        }
        DUE.wrongState("P10 the thirteenth", () -> x.train(1, 0, 0, 0, 1));
        DUE.wrongArgument("P10 the thirteenth, at a street", () -> x.train(0, 0, 0, 0, 1));
    }

    private static void alight() {
        CrushLoad x = doorToPlatform();
        x.pass(2);
        x.train(1, 3, 0, 9, 5);
        tells("at once", x, 0, 0, 3, 1, 5);
        int[] of = {CrushLoad.WAITS, 1, 0, 0, 0, 0, 2};
        for (int what = 0; what <= 6; what++) {
            DUE.is("P10 who alighted, " + what, x.person(2, what), of[what]);
        }
        DUE.is("P14 they came", x.ofRoom(1, 3), 3);
        DUE.is("P14 they wait", x.ofRoom(1, 0), 3);
        x.pass(1);
        tells("they want no train", x, 0, 0, 3, 1, 4);
        DUE.is("P15 they go back", x.ofLink(0, 2), 3);
        x.pass(1);
        DUE.is("P16 they are out", x.person(1, 0), CrushLoad.OUT);
    }

    private static void alightAsFarAsRoom() {
        CrushLoad x = new CrushLoad();
        x.room(CrushLoad.STREET, 1);
        x.room(CrushLoad.PLATFORM, 7);
        x.link(CrushLoad.DOOR, 0, 1, 2, 2);
        crowd(x, 4);
        x.pass(3);
        // Two wait there, two are on the way to it.
        DUE.is("P14 wait", x.ofRoom(1, 0), 2);
        DUE.is("P14 on the way", x.ofRoom(1, 1), 2);
        x.train(1, 20, 0, 0, 1);
        DUE.is("P17 as far as the room allows", x.ofTrain(0, 1), 3);
        DUE.is("P14 full", x.ofRoom(1, 0) + x.ofRoom(1, 1), 7);
    }

    private static void alightAsFarAsNumbers() {
        CrushLoad x = doorToPlatform();
        for (int i = 0; i < 117; i++) {
            x.enter(0, 0, false, true, CrushLoad.NONE);
        }
        x.train(1, 5, 0, 0, 1);
        DUE.is("P17 as far as the numbers allow", x.ofTrain(0, 1), 3);
        DUE.is("P16 the last number", x.person(119, 1), 1);
        DUE.wrongState("P9 no number more", () -> x.enter(0, 0, false, true, CrushLoad.NONE));
    }

    private static void fourASecond() {
        CrushLoad x = doorToPlatform();
        crowd(x, 9);
        x.pass(2);
        x.train(1, 0, 0, 6, 3);
        tells("nobody yet", x, 0, 0, 0, 1, 3);
        x.pass(1);
        tells("four", x, 0, 4, 0, 1, 2);
        x.pass(1);
        tells("as far as there is space", x, 0, 6, 0, 1, 1);
        x.pass(1);
        tells("left, full", x, 0, 6, 0, 0, 0);
        DUE.is("P14 three wait still", x.ofRoom(1, 0), 3);
        DUE.is("P14 six left", x.ofRoom(1, 4), 6);
    }

    private static void firstWhoCameFirst() {
        CrushLoad x = new CrushLoad();
        x.room(CrushLoad.STREET, 1);
        x.room(CrushLoad.PLATFORM, 20);
        x.room(CrushLoad.STREET, 1);
        x.link(CrushLoad.DOOR, 0, 1, 5, 9);
        x.link(CrushLoad.DOOR, 2, 1, 1, 9);
        crowd(x, 2);
        int quick = x.enter(2, 1, false, true, CrushLoad.NONE);
        x.pass(6);
        x.train(1, 0, 0, 2, 1);
        x.pass(1);
        DUE.is("P10 who came first", x.person(quick, 0), CrushLoad.GONE);
        DUE.is("P10 then the lower number", x.person(0, 0), CrushLoad.GONE);
        DUE.is("P10 not the third", x.person(1, 0), CrushLoad.WAITS);
    }

    /** Who comes in that very second goes aboard; at another platform nobody does. */
    private static void notTheirs() {
        CrushLoad x = doorToPlatform();
        x.room(CrushLoad.PLATFORM, 5);
        crowd(x, 1);
        x.pass(1);
        x.train(2, 0, 0, 9, 2);
        x.train(1, 0, 0, 9, 1);
        x.pass(1);
        tells("came and went aboard", x, 1, 1, 0, 0, 0);
        tells("at another platform", x, 0, 0, 0, 1, 1);
        x.pass(1);
        tells("left, empty", x, 0, 0, 0, 0, 0);
    }

    private static void staysLonger() {
        CrushLoad x = doorToPlatform();
        crowd(x, 18);
        x.pass(3);
        DUE.is("P14 all came", x.ofRoom(1, 0), 18);
        x.train(1, 0, 0, 99, 1);
        int[] aboard = {4, 8, 12, 16};
        for (int second = 0; second < 3; second++) {
            x.pass(1);
            tells("one second more", x, 0, aboard[second], 0, 1, 1);
            DUE.wrongState("P10 one is there still", () -> x.train(1, 0, 0, 99, 1));
        }
        x.pass(1);
        tells("at most three times", x, 0, 16, 0, 0, 0);
        x.pass(1);
        DUE.is("P14 two were left behind", x.ofRoom(1, 0), 2);
        DUE.is("P10 another one comes", x.train(1, 0, 0, 99, 2), 1);
    }

    private static void staysNotLonger() {
        CrushLoad x = doorToPlatform();
        crowd(x, 4);
        x.pass(2);
        x.train(1, 5, 0, 99, 1);
        x.pass(1);
        tells("nobody waits for it any more", x, 0, 4, 5, 0, 0);
        crowd(x, 5);
        x.pass(2);
        x.train(1, 0, 0, 4, 1);
        x.pass(1);
        tells("no space any more", x, 1, 4, 0, 0, 0);
        DUE.is("P14 one waits still", x.ofRoom(1, 0), 1);
    }

    /** Who comes through on the way to another platform does not wait for a train there. */
    private static void passingThrough() {
        CrushLoad x = doorToPlatform();
        x.room(CrushLoad.PLATFORM, 20);
        x.link(CrushLoad.DOOR, 1, 2, 1, 0);
        int one = x.enter(0, 2, false, true, CrushLoad.NONE);
        x.pass(2);
        DUE.is("P16 waits to go on", x.person(one, 1), 1);
        x.train(1, 0, 0, 9, 1);
        x.pass(1);
        tells("not for who goes on", x, 0, 0, 0, 0, 0);
        DUE.is("P16 waits still", x.person(one, 0), CrushLoad.WAITS);
    }
}
