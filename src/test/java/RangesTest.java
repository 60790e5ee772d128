/**
 * The ranges of all arguments, promise by promise: the least and the most that are taken, what lies just outside of them,
 * and the farthest numbers; and the exception that is named first where several apply.
 */
public final class RangesTest {
    private static final Due DUE = new Due("RangesTest");
    private static final int LEAST = Integer.MIN_VALUE;
    private static final int MOST = Integer.MAX_VALUE;

    private interface Of {
        long call(int value);
    }

    public static void main(String[] args) {
        newObject();
        room();
        roomOrder();
        link();
        linkOrder();
        linkNumbers();
        movingAlone();
        meter();
        enter();
        enterKinds();
        enterOrder();
        train();
        trainKinds();
        trainOrder();
        pass();
        whats();
        whatOrder();
        foretell();
        foretellOrder();
        personNumbers();
        DUE.end();
    }

    /** Streets 0 and 1, hall 2, platforms 3 and 4, and one link of each kind, numbered as the kinds are. */
    private static CrushLoad station() {
        CrushLoad x = new CrushLoad();
        x.room(CrushLoad.STREET, 1);
        x.room(CrushLoad.STREET, 60);
        x.room(CrushLoad.HALL, 60);
        x.room(CrushLoad.PLATFORM, 60);
        x.room(CrushLoad.PLATFORM, 1);
        for (int kind = CrushLoad.DOOR; kind <= CrushLoad.GATE; kind++) {
            x.link(kind, 0, 3, 1, 1);
        }
        return x;
    }

    /** As many rooms, links, persons and trains as may be, the last train at platform 3; platform 4 is free. */
    private static CrushLoad full() {
        CrushLoad x = station();
        for (int room = 5; room < 10; room++) {
            x.room(CrushLoad.HALL, 7);
        }
        for (int link = 5; link < 14; link++) {
            x.link(CrushLoad.DOOR, 0, 2, 1, 1);
        }
        for (int person = 0; person < 120; person++) {
            x.enter(0, 0, false, true, CrushLoad.NONE);
        }
        for (int train = 0; train < 12; train++) {
            x.train(3, 0, 0, 0, train < 11 ? 1 : 9);
            x.pass(1);
        }
        return x;
    }

    private static void indexes(String label, int count, Of of) {
        int[] outside = {-1, count, count + 1, LEAST, MOST, 1 << 16, 256};
        for (int index : outside) {
            DUE.outOfBounds(label + " " + index, () -> of.call(index));
        }
        for (int index = 0; index < count; index++) {
            taken(label, index, of);
        }
    }

    /** Each number of the range is taken, and none outside of it. */
    private static void range(String label, int least, int most, Of of) {
        int[] outside = {least - 1, most + 1, LEAST, MOST, least + 65536, least - 256, most + 256};
        for (int value : outside) {
            DUE.wrongArgument(label + " " + value, () -> of.call(value));
        }
        for (int value = least; value <= most; value++) {
            taken(label, value, of);
        }
    }

    private static void taken(String label, int value, Of of) {
        DUE.is(label + " " + value + " is taken", Due.outcome(() -> of.call(value)).contains("throws"), false);
    }

    private static long of(boolean is) {
        return is ? 1 : 0;
    }

    private static void newObject() {
        DUE.is("P1 the second 0", new CrushLoad().now(), 0);
        CrushLoad x = new CrushLoad();
        indexes("P1 no room, ofRoom", 0, i -> x.ofRoom(i, 0));
        indexes("P1 no room, foretell", 0, i -> x.foretell(i, 1));
        indexes("P1 no room, link from", 0, i -> x.link(0, i, 0, 1, 1));
        indexes("P1 no room, link to", 0, i -> x.link(0, 0, i, 1, 1));
        indexes("P1 no room, enter", 0, i -> x.enter(i, i, false, true, 0));
        indexes("P1 no room, train", 0, i -> x.train(i, 0, i, 0, 1));
        indexes("P1 no link, close", 0, i -> of(x.close(i, true)));
        indexes("P1 no link, turn", 0, i -> of(x.turn(i)));
        indexes("P1 no link, stop", 0, i -> of(x.stop(i, true)));
        indexes("P1 no link, meter", 0, i -> x.meter(i, 1));
        indexes("P1 no link, ofLink", 0, i -> x.ofLink(i, 0));
        indexes("P1 no person, person", 0, i -> x.person(i, 0));
        indexes("P1 no person, alone", 0, i -> x.alone(i));
        indexes("P1 no person, aloneAnew", 0, i -> x.aloneAnew(i));
        indexes("P1 no train, ofTrain", 0, i -> x.ofTrain(i, 0));
        DUE.is("P1 the first room is 0", x.room(CrushLoad.STREET, 60), 0);
        DUE.is("P1 the first second is 1", x.pass(1), 1);
    }

    private static void room() {
        range("P2 kind", CrushLoad.STREET, CrushLoad.PLATFORM, kind -> new CrushLoad().room(kind, 1));
        for (int kind = CrushLoad.STREET; kind <= CrushLoad.PLATFORM; kind++) {
            int of = kind;
            range("P2 of kind " + kind + ", limit", 1, 60, limit -> new CrushLoad().room(of, limit));
        }
        for (int kind = CrushLoad.STREET; kind <= CrushLoad.PLATFORM; kind++) {
            CrushLoad x = new CrushLoad();
            int of = kind;
            for (int room = 0; room < 10; room++) {
                DUE.is("P2 at most 10, of kind " + kind, x.room(kind, 60), room);
            }
            DUE.wrongState("P2 there are 10, of kind " + kind, () -> x.room(of, 60));
            DUE.wrongState("P2 there are 10 still, of kind " + kind, () -> x.room(of, 1));
            DUE.is("P2 the tenth, of kind " + kind, x.ofRoom(9, 0), 0);
            DUE.outOfBounds("P2 no eleventh, of kind " + kind, () -> x.ofRoom(10, 0));
        }
    }

    private static void roomOrder() {
        CrushLoad x = full();
        DUE.wrongArgument("P2 kind, ahead of there being 10", () -> x.room(-1, 1));
        DUE.wrongArgument("P2 kind 3, ahead of there being 10", () -> x.room(3, 1));
        DUE.wrongArgument("P2 limit 0, ahead of there being 10", () -> x.room(CrushLoad.HALL, 0));
        DUE.wrongArgument("P2 limit 61, ahead of there being 10", () -> x.room(CrushLoad.STREET, 61));
    }

    private static void link() {
        indexes("P3 the first room", 5, from -> station().link(CrushLoad.DOOR, from, from == 0 ? 1 : 0, 1, 1));
        indexes("P3 the second room", 5, to -> station().link(CrushLoad.DOOR, to == 0 ? 1 : 0, to, 1, 1));
        range("P3 kind", CrushLoad.DOOR, CrushLoad.GATE, kind -> station().link(kind, 0, 1, 1, 1));
        for (int kind = CrushLoad.DOOR; kind <= CrushLoad.GATE; kind++) {
            int of = kind;
            range("P3 of kind " + kind + ", steps", 1, 5, steps -> station().link(of, 0, 1, steps, 9));
            range("P3 of kind " + kind + ", rate", 0, 9, rate -> station().link(of, 0, 1, 5, rate));
        }
        CrushLoad x = station();
        for (int room = 0; room < 5; room++) {
            int same = room;
            DUE.wrongArgument("P3 both are room " + room, () -> x.link(CrushLoad.DOOR, same, same, 1, 1));
        }
        for (int kind = CrushLoad.DOOR; kind <= CrushLoad.GATE; kind++) {
            CrushLoad y = new CrushLoad();
            int of = kind;
            y.room(CrushLoad.STREET, 1);
            y.room(CrushLoad.PLATFORM, 1);
            for (int link = 0; link < 14; link++) {
                DUE.is("P3 at most 14, of kind " + kind, y.link(kind, link % 2, 1 - link % 2, 1, 0), link);
            }
            DUE.wrongState("P3 there are 14, of kind " + kind, () -> y.link(of, 0, 1, 1, 0));
            DUE.wrongState("P3 there are 14 still, of kind " + kind, () -> y.link(of, 1, 0, 5, 9));
            DUE.is("P3 the fourteenth, of kind " + kind, y.ofLink(13, 4), 0);
            DUE.outOfBounds("P3 no fifteenth, of kind " + kind, () -> y.ofLink(14, 4));
        }
    }

    private static void linkOrder() {
        CrushLoad x = station();
        DUE.outOfBounds("P3 no first room, ahead of kind", () -> x.link(5, 5, 1, 1, 1));
        DUE.outOfBounds("P3 no second room, ahead of kind", () -> x.link(-1, 0, 5, 1, 1));
        DUE.outOfBounds("P3 no first room, ahead of steps", () -> x.link(0, -1, 1, 0, 1));
        DUE.outOfBounds("P3 no second room, ahead of steps", () -> x.link(0, 0, -1, 6, 1));
        DUE.outOfBounds("P3 no first room, ahead of rate", () -> x.link(0, 5, 1, 1, 10));
        DUE.outOfBounds("P3 no second room, ahead of rate", () -> x.link(0, 0, 5, 1, -1));
        DUE.outOfBounds("P3 both the same, but none", () -> x.link(0, 5, 5, 1, 1));
        DUE.outOfBounds("P3 both -1", () -> x.link(0, -1, -1, 1, 1));
        CrushLoad y = full();
        DUE.outOfBounds("P3 no first room, ahead of there being 14", () -> y.link(0, 10, 1, 1, 1));
        DUE.outOfBounds("P3 no second room, ahead of there being 14", () -> y.link(0, 0, 10, 1, 1));
        DUE.outOfBounds("P3 no room, ahead of all", () -> y.link(5, 0, 10, 0, 10));
        DUE.wrongArgument("P3 both the same, ahead of there being 14", () -> y.link(0, 9, 9, 1, 1));
        DUE.wrongArgument("P3 kind, ahead of there being 14", () -> y.link(5, 0, 9, 1, 1));
        DUE.wrongArgument("P3 steps 0, ahead of there being 14", () -> y.link(0, 0, 9, 0, 1));
        DUE.wrongArgument("P3 steps 6, ahead of there being 14", () -> y.link(0, 0, 9, 6, 1));
        DUE.wrongArgument("P3 rate -1, ahead of there being 14", () -> y.link(0, 0, 9, 1, -1));
        DUE.wrongArgument("P3 rate 10, ahead of there being 14", () -> y.link(0, 0, 9, 1, 10));
    }

    /** Of few links, and of as many as may be. */
    private static void linkNumbers() {
        CrushLoad x = station();
        indexes("P4 link", 5, link -> of(x.close(link, true)));
        indexes("P4 link, opened", 5, link -> of(x.close(link, false)));
        indexes("P8 link", 5, link -> x.meter(link, 9));
        indexes("P15 link", 5, link -> x.ofLink(link, 4));
        CrushLoad y = full();
        indexes("P4 of 14, link", 14, link -> of(y.close(link, true)));
        indexes("P8 of 14, link", 14, link -> y.meter(link, 0));
        indexes("P15 of 14, link", 14, link -> y.ofLink(link, 0));
        DUE.is("P5 at most 14 are closed", y.announce(), 14);
        y.close(13, false);
        DUE.is("P5 but one", y.announce(), 13);
    }

    private static void movingAlone() {
        CrushLoad x = station();
        int[] none = {-1, 5, 6, LEAST, MOST};
        for (int link : none) {
            DUE.outOfBounds("P6 no link " + link, () -> of(x.turn(link)));
            DUE.outOfBounds("P7 no link " + link, () -> of(x.stop(link, true)));
            DUE.outOfBounds("P7 no link " + link + ", to go", () -> of(x.stop(link, false)));
        }
        for (int kind = CrushLoad.DOOR; kind <= CrushLoad.GATE; kind++) {
            int link = kind;
            if (kind != CrushLoad.MOVING) {
                DUE.wrongArgument("P6 of kind " + kind, () -> of(x.turn(link)));
                DUE.wrongArgument("P7 of kind " + kind, () -> of(x.stop(link, true)));
                DUE.wrongArgument("P7 of kind " + kind + ", to go", () -> of(x.stop(link, false)));
            }
        }
        DUE.is("P6 a moving stair is taken", x.turn(CrushLoad.MOVING), true);
        DUE.is("P7 a moving stair is taken", x.stop(CrushLoad.MOVING, true), false);
        CrushLoad y = new CrushLoad();
        y.room(CrushLoad.STREET, 1);
        y.room(CrushLoad.HALL, 1);
        for (int link = 0; link < 14; link++) {
            y.link(CrushLoad.MOVING, 0, 1, 1, 1);
        }
        indexes("P6 of 14, link", 14, link -> of(y.turn(link)));
        indexes("P7 of 14, link", 14, link -> of(y.stop(link, true)));
    }

    private static void meter() {
        for (int kind = CrushLoad.DOOR; kind <= CrushLoad.GATE; kind++) {
            int link = kind;
            range("P8 of kind " + kind + ", rate", 0, 9, rate -> station().meter(link, rate));
            CrushLoad x = station();
            int was = 1;
            for (int rate = 0; rate <= 9; rate++) {
                DUE.is("P8 it was " + was + ", of kind " + kind, x.meter(kind, rate), was);
                DUE.is("P8, P15 it is " + rate + ", of kind " + kind, x.ofLink(kind, 4), rate);
                was = rate;
            }
        }
        CrushLoad x = station();
        DUE.outOfBounds("P8 no link, ahead of rate 10", () -> x.meter(5, 10));
        DUE.outOfBounds("P8 no link, ahead of rate -1", () -> x.meter(-1, -1));
    }

    private static void enter() {
        CrushLoad x = station();
        int[] none = {-1, 5, 6, LEAST, MOST};
        for (int room : none) {
            DUE.outOfBounds("P9 no street " + room, () -> x.enter(room, 3, false, true, 0));
            DUE.outOfBounds("P9 no goal " + room, () -> x.enter(0, room, false, true, 0));
            DUE.outOfBounds("P9 neither " + room, () -> x.enter(room, room, false, true, 0));
        }
        range("P9 group", -1, 9, group -> station().enter(0, 3, false, true, group));
        range("P9 with a chair, group", -1, 9, group -> station().enter(1, 1, true, false, group));
        for (int person = 0; person < 120; person++) {
            DUE.is("P9 at most 120", x.enter(person % 2, person % 4 == 2 ? 1 : person % 5 == 2 ? 3 : person % 2,
                    person % 7 == 0, person % 3 == 0, person % 11 - 1), person);
        }
        for (int goal = 0; goal < 5; goal++) {
            int to = goal;
            if (goal != 2) {
                DUE.wrongState("P9 there are 120, to " + goal, () -> x.enter(0, to, false, true, CrushLoad.NONE));
            }
        }
        DUE.wrongState("P9 there are 120 still", () -> x.enter(1, 3, true, false, 9));
        DUE.is("P9 the hundred and twentieth", x.person(119, 1), 1);
        DUE.outOfBounds("P9 none after that", () -> x.person(120, 1));
    }

    private static void enterKinds() {
        for (int street = 0; street < 5; street++) {
            for (int goal = 0; goal < 5; goal++) {
                CrushLoad x = station();
                int from = street;
                int to = goal;
                String label = "P9 from " + street + " to " + goal;
                if (street < 2 && goal != 2) {
                    DUE.is(label, x.enter(from, to, false, true, CrushLoad.NONE), 0);
                } else {
                    DUE.wrongArgument(label, () -> x.enter(from, to, false, true, CrushLoad.NONE));
                }
            }
        }
    }

    private static void enterOrder() {
        CrushLoad x = station();
        DUE.outOfBounds("P9 no goal, ahead of a hall", () -> x.enter(2, 5, false, true, 0));
        DUE.outOfBounds("P9 no street, ahead of a hall as the goal", () -> x.enter(5, 2, false, true, 0));
        DUE.outOfBounds("P9 no street, ahead of group 10", () -> x.enter(-1, 3, false, true, 10));
        DUE.outOfBounds("P9 no goal, ahead of group -2", () -> x.enter(0, -1, false, true, -2));
        CrushLoad y = full();
        DUE.outOfBounds("P9 no street, ahead of there being 120", () -> y.enter(10, 3, false, true, 0));
        DUE.outOfBounds("P9 no goal, ahead of there being 120", () -> y.enter(0, 10, false, true, 0));
        DUE.outOfBounds("P9 no goal, ahead of all", () -> y.enter(2, 10, false, true, 10));
        DUE.wrongArgument("P9 no street but a platform, ahead of there being 120", () -> y.enter(3, 3, false, true, 0));
        DUE.wrongArgument("P9 to a hall, ahead of there being 120", () -> y.enter(0, 2, false, true, 0));
        DUE.wrongArgument("P9 group 10, ahead of there being 120", () -> y.enter(0, 3, false, true, 10));
        DUE.wrongArgument("P9 group -2, ahead of there being 120", () -> y.enter(0, 3, false, true, -2));
    }

    private static void train() {
        CrushLoad x = station();
        int[] none = {-1, 5, 6, LEAST, MOST};
        for (int room : none) {
            DUE.outOfBounds("P10 no platform " + room, () -> x.train(room, 0, 0, 0, 1));
            DUE.outOfBounds("P10 no street " + room, () -> x.train(3, 0, room, 0, 1));
            DUE.outOfBounds("P10 neither " + room, () -> x.train(room, 0, room, 0, 1));
        }
        range("P10 alight", 0, 20, alight -> station().train(3, alight, 0, 0, 1));
        range("P10 space", 0, 99, space -> station().train(3, 0, 1, space, 1));
        range("P10 stays", 1, 9, stays -> station().train(4, 0, 0, 0, stays));
        for (int train = 0; train < 12; train++) {
            DUE.is("P10 at most 12", x.train(train % 2 == 0 ? 3 : 4, 0, 0, 0, 2), train);
            x.pass(1);
        }
        x.pass(2);
        DUE.wrongState("P10 there are 12, none of them there", () -> x.train(3, 0, 0, 0, 1));
        DUE.wrongState("P10 there are 12 still", () -> x.train(4, 20, 0, 99, 9));
        DUE.is("P10 nobody alighted from it", x.ofRoom(4, 3), 0);
        indexes("P17 of 12, train", 12, train -> x.ofTrain(train, 2));
    }

    private static void trainKinds() {
        for (int platform = 0; platform < 5; platform++) {
            for (int street = 0; street < 5; street++) {
                CrushLoad x = station();
                int at = platform;
                int to = street;
                String label = "P10 at " + platform + ", to " + street;
                if (platform >= 3 && street < 2) {
                    DUE.is(label, x.train(at, 0, to, 0, 1), 0);
                } else {
                    DUE.wrongArgument(label, () -> x.train(at, 0, to, 0, 1));
                }
            }
        }
    }

    private static void trainOrder() {
        CrushLoad x = station();
        x.train(3, 0, 0, 0, 9);
        DUE.outOfBounds("P10 no platform, ahead of a hall as the goal", () -> x.train(5, 0, 2, 0, 1));
        DUE.outOfBounds("P10 no street, ahead of a hall", () -> x.train(2, 0, 5, 0, 1));
        DUE.outOfBounds("P10 no platform, ahead of alight 21", () -> x.train(-1, 21, 0, 0, 1));
        DUE.outOfBounds("P10 no street, ahead of space 100", () -> x.train(4, 0, -1, 100, 1));
        DUE.outOfBounds("P10 no street, ahead of stays 0", () -> x.train(4, 0, 5, 0, 0));
        DUE.outOfBounds("P10 no street, ahead of one being there", () -> x.train(3, 0, 5, 0, 1));
        someThere("one being there", x, 3);
        DUE.wrongState("P10 one is there", () -> x.train(3, 0, 0, 0, 1));
        CrushLoad y = full();
        DUE.outOfBounds("P10 no platform, ahead of there being 12", () -> y.train(10, 0, 0, 0, 1));
        DUE.outOfBounds("P10 no street, ahead of there being 12", () -> y.train(4, 0, 10, 0, 1));
        DUE.outOfBounds("P10 no street, ahead of all", () -> y.train(2, 21, 10, 100, 0));
        someThere("there being 12", y, 4);
        someThere("both", y, 3);
        DUE.wrongState("P10 there are 12, none at this platform", () -> y.train(4, 0, 0, 0, 1));
        DUE.wrongState("P10 there are 12, one at this platform", () -> y.train(3, 0, 0, 0, 1));
    }

    /** What is wrong with an argument, ahead of there being no place for the train. */
    private static void someThere(String label, CrushLoad x, int platform) {
        DUE.wrongArgument("P10 at a hall, ahead of " + label, () -> x.train(2, 0, 0, 0, 1));
        DUE.wrongArgument("P10 at a street, ahead of " + label, () -> x.train(0, 0, 0, 0, 1));
        DUE.wrongArgument("P10 to a platform, ahead of " + label, () -> x.train(platform, 0, 4, 0, 1));
        DUE.wrongArgument("P10 to a hall, ahead of " + label, () -> x.train(platform, 0, 2, 0, 1));
        DUE.wrongArgument("P10 alight -1, ahead of " + label, () -> x.train(platform, -1, 0, 0, 1));
        DUE.wrongArgument("P10 alight 21, ahead of " + label, () -> x.train(platform, 21, 0, 0, 1));
        DUE.wrongArgument("P10 space -1, ahead of " + label, () -> x.train(platform, 0, 0, -1, 1));
        DUE.wrongArgument("P10 space 100, ahead of " + label, () -> x.train(platform, 0, 0, 100, 1));
        DUE.wrongArgument("P10 stays 0, ahead of " + label, () -> x.train(platform, 0, 0, 0, 0));
        DUE.wrongArgument("P10 stays 10, ahead of " + label, () -> x.train(platform, 0, 0, 0, 10));
    }

    private static void pass() {
        range("P12 seconds", 1, 60, seconds -> new CrushLoad().pass(seconds));
        CrushLoad x = station();
        int due = 0;
        for (int seconds = 1; seconds <= 60; seconds++) {
            due += seconds;
            DUE.is("P12 the second after " + seconds + " more", x.pass(seconds), due);
            DUE.is("P13 the second after " + seconds + " more", x.now(), due);
        }
    }

    /** In a new station, where nothing came yet, and in one that is full. */
    private static void whats() {
        CrushLoad x = station();
        x.enter(0, 3, false, true, CrushLoad.NONE);
        x.train(3, 0, 0, 0, 1);
        CrushLoad y = full();
        range("P14 what", 0, 4, what -> x.ofRoom(0, what));
        range("P14 of the last room, what", 0, 4, what -> y.ofRoom(9, what));
        range("P15 what", 0, 4, what -> x.ofLink(0, what));
        range("P15 of the last link, what", 0, 4, what -> y.ofLink(13, what));
        range("P16 what", 0, 6, what -> x.person(0, what));
        range("P16 of the last person, what", 0, 6, what -> y.person(119, what));
        range("P17 what", 0, 3, what -> x.ofTrain(0, what));
        range("P17 of the last train, what", 0, 3, what -> y.ofTrain(11, what));
        indexes("P14 room", 5, room -> x.ofRoom(room, 0));
        indexes("P14 of 10, room", 10, room -> y.ofRoom(room, 4));
        indexes("P16 person", 1, person -> x.person(person, 0));
        indexes("P16 of 120, person", 120, person -> y.person(person, 6));
        indexes("P17 train", 1, train -> x.ofTrain(train, 0));
    }

    private static void whatOrder() {
        CrushLoad x = station();
        int[] wrong = {-1, 7, LEAST, MOST};
        for (int what : wrong) {
            DUE.outOfBounds("P14 no room, ahead of what " + what, () -> x.ofRoom(5, what));
            DUE.outOfBounds("P15 no link, ahead of what " + what, () -> x.ofLink(5, what));
            DUE.outOfBounds("P16 no person, ahead of what " + what, () -> x.person(0, what));
            DUE.outOfBounds("P17 no train, ahead of what " + what, () -> x.ofTrain(0, what));
        }
    }

    private static void foretell() {
        CrushLoad x = station();
        CrushLoad y = full();
        indexes("P18 room", 5, room -> x.foretell(room, 1));
        indexes("P18 of 10, room", 10, room -> y.foretell(room, 60));
        for (int room = 0; room < 5; room += 3) {
            int of = room;
            range("P18 seconds", 1, 60, seconds -> x.foretell(of, seconds));
        }
    }

    private static void foretellOrder() {
        CrushLoad x = station();
        DUE.outOfBounds("P18 no room, ahead of no second", () -> x.foretell(5, 0));
        DUE.outOfBounds("P18 no room, ahead of 61 seconds", () -> x.foretell(-1, 61));
    }

    private static void personNumbers() {
        CrushLoad x = station();
        x.enter(0, 3, false, true, CrushLoad.NONE);
        x.enter(1, 3, true, false, 9);
        indexes("P20 person", 2, person -> x.alone(person));
        indexes("P21 person", 2, person -> x.aloneAnew(person));
        CrushLoad y = full();
        indexes("P20 of 120, person", 120, person -> y.alone(person));
        indexes("P21 of 120, person", 120, person -> y.aloneAnew(person));
    }
}
