/**
 * The edges that "Terms" names: a room that is just full, a rate that is just used up, steps that are just over, alarms
 * just on and just off, a train's last place and last second, groups that just fit, the least distance by one, the last
 * second that is foretold.
 */
public final class EdgesTest {
    private static final Due DUE = new Due("EdgesTest");

    public static void main(String[] args) {
        emptyStation();
        emptyRooms();
        limits();
        streetsHaveNone();
        limitWithOnTheWay();
        limitBothWays();
        alarms();
        rates();
        ratesBothWays();
        halfRates();
        steps();
        movingStairs();
        orderedGates();
        chairs();
        closedAndKnown();
        DUE.end();
    }

    /** Street 0, a platform 1 with that limit, and link 0 of that kind from 0 to 1. */
    private static CrushLoad pair(int limit, int kind, int steps, int rate) {
        CrushLoad x = new CrushLoad();
        x.room(CrushLoad.STREET, 1);
        x.room(CrushLoad.PLATFORM, limit);
        x.link(kind, 0, 1, steps, rate);
        return x;
    }

    private static void enter(CrushLoad x, int many) {
        for (int i = 0; i < many; i++) {
            x.enter(0, 1, false, true, CrushLoad.NONE);
        }
    }

    private static void emptyStation() {
        CrushLoad x = new CrushLoad();
        DUE.is("P5 no link is closed", x.announce(), 0);
        DUE.is("P11 nobody has another goal", x.clear(), 0);
        DUE.is("P19 nobody waits", x.clears(), 0);
        DUE.is("P12 a second passes", x.pass(1), 1);
        DUE.is("P12 60 seconds pass", x.pass(60), 61);
        DUE.is("P19 nobody waits then", x.clears(), 0);
        DUE.is("P2 a room, later", x.room(CrushLoad.PLATFORM, 1), 0);
        DUE.is("P14 empty", x.ofRoom(0, 0), 0);
        DUE.is("P18 and empty in 60 seconds", x.foretell(0, 60), 0);
    }

    /** Rooms without a link, links without a person, a train without a passenger. */
    private static void emptyRooms() {
        CrushLoad x = new CrushLoad();
        x.room(CrushLoad.STREET, 1);
        x.room(CrushLoad.PLATFORM, 1);
        x.enter(0, 1, false, true, CrushLoad.NONE);
        DUE.is("P16 no next link without links", x.person(0, 3), CrushLoad.NONE);
        DUE.is("P20 no way without links", x.alone(0), CrushLoad.NONE);
        DUE.is("P21 no way without links", x.aloneAnew(0), CrushLoad.NONE);
        x.train(1, 0, 0, 99, 1);
        DUE.is("P17 nobody alighted", x.ofTrain(0, 1), 0);
        x.pass(1);
        DUE.is("P17 nobody went aboard", x.ofTrain(0, 0), 0);
        DUE.is("P17 nobody waits there, so it left", x.ofTrain(0, 2), 0);
        DUE.is("P18 waits in 60 seconds", x.foretell(0, 60), 1);
        DUE.is("P19 is out at once in the street", x.clears(), 0);
        x.link(CrushLoad.DOOR, 1, 0, 1, 1);
        DUE.is("P16 the next link, from its second room", x.person(0, 3), 0);
        DUE.is("P15 one waits for it", x.ofLink(0, 3), 1);
    }

    /** Of each limit: so many are in the room, and never one more. */
    private static void limits() {
        for (int limit = 1; limit <= 60; limit++) {
            CrushLoad x = pair(limit, CrushLoad.DOOR, 1, 9);
            enter(x, limit);
            DUE.is("P14 all find a place, limit " + limit, x.foretell(1, 60), limit);
            enter(x, 1);
            for (int second = 0; second < 9; second++) {
                x.pass(1);
                int due = Math.min(limit, 9 * (second + 1));
                DUE.is("P14 there and on the way, limit " + limit + ", second " + second,
                        x.ofRoom(1, 0) + x.ofRoom(1, 1), due);
            }
            DUE.is("P14 one has no place, limit " + limit, x.ofRoom(0, 0), 1);
            x.train(1, 20, 0, 1, 1);
            DUE.is("P10 nobody alights in a full room, limit " + limit, x.ofTrain(0, 1), 0);
            x.pass(2);
            DUE.is("P14 one went by train, one came, limit " + limit, x.ofRoom(1, 0), limit);
            DUE.is("P14 nobody is left, limit " + limit, x.ofRoom(0, 0), 0);
        }
        for (int limit = 1; limit <= 22; limit++) {
            CrushLoad x = pair(limit, CrushLoad.GATE, 1, 9);
            x.train(1, 20, 0, 0, 1);
            DUE.is("P10 as far as the room allows, limit " + limit, x.ofTrain(0, 1), Math.min(20, limit));
            DUE.is("P14 they wait, limit " + limit, x.ofRoom(1, 0), Math.min(20, limit));
        }
    }

    private static void streetsHaveNone() {
        for (int limit = 1; limit <= 60; limit += 59) {
            CrushLoad x = new CrushLoad();
            x.room(CrushLoad.STREET, limit);
            x.room(CrushLoad.STREET, limit);
            x.room(CrushLoad.PLATFORM, 60);
            x.link(CrushLoad.DOOR, 0, 1, 1, 9);
            x.link(CrushLoad.DOOR, 1, 2, 1, 0);
            for (int person = 0; person < 100; person++) {
                x.enter(0, 2, false, true, person < 20 ? 0 : CrushLoad.NONE);
            }
            x.pass(60);
            DUE.is("P14 100 wait in a street, limit " + limit, x.ofRoom(1, 0), 100);
            DUE.is("P14 it has no alarm, limit " + limit, x.ofRoom(1, 2), 0);
            DUE.is("P14 nor the other one, limit " + limit, x.ofRoom(0, 2), 0);
        }
    }

    /** Who is on the way to a room has a place there; who is on the way out of it has none. */
    private static void limitWithOnTheWay() {
        CrushLoad x = pair(3, CrushLoad.DOOR, 5, 9);
        x.room(CrushLoad.STREET, 1);
        x.link(CrushLoad.DOOR, 1, 2, 5, 9);
        enter(x, 4);
        x.pass(1);
        DUE.is("P14 three are on the way", x.ofRoom(1, 1), 3);
        x.train(1, 20, 2, 0, 1);
        DUE.is("P10 the room is full of those on the way", x.ofTrain(0, 1), 0);
        x.pass(5);
        DUE.is("P14 three are there", x.ofRoom(1, 0), 3);
        x.train(1, 0, 2, 2, 1);
        x.pass(1);
        DUE.is("P14 one more is on the way, two are gone", x.ofRoom(1, 1), 1);
        x.train(1, 20, 2, 0, 1);
        DUE.is("P10 one place is left", x.ofTrain(2, 1), 1);
        x.pass(1);
        DUE.is("P14 who alighted is on the way out", x.ofRoom(2, 1), 1);
        x.train(1, 20, 2, 0, 1);
        DUE.is("P10 that place is free at once", x.ofTrain(3, 1), 1);
    }

    /** Between two full rooms nobody begins; who begins one way makes place for the other way, in that very second. */
    private static void limitBothWays() {
        CrushLoad x = new CrushLoad();
        x.room(CrushLoad.STREET, 1);
        x.room(CrushLoad.HALL, 1);
        x.room(CrushLoad.HALL, 1);
        x.room(CrushLoad.STREET, 1);
        x.link(CrushLoad.DOOR, 1, 2, 1, 9);
        x.link(CrushLoad.DOOR, 0, 1, 1, 9);
        x.link(CrushLoad.DOOR, 3, 2, 1, 9);
        x.enter(0, 3, false, true, CrushLoad.NONE);
        x.enter(3, 0, false, true, CrushLoad.NONE);
        x.pass(10);
        DUE.is("P14 each in the way of the other one", x.ofRoom(1, 0) + x.ofRoom(2, 0), 2);
        DUE.is("P15 nobody begins between two full rooms", x.ofLink(0, 1) + x.ofLink(0, 2), 0);
        CrushLoad y = pair(1, CrushLoad.DOOR, 1, 9);
        y.train(1, 1, 0, 0, 1);
        enter(y, 2);
        y.pass(1);
        DUE.is("P14 one leaves, and one finds that place", y.ofLink(0, 1) + 10 * y.ofLink(0, 2), 11);
        CrushLoad z = pair(1, CrushLoad.DOOR, 1, 9);
        enter(z, 1);
        z.meter(0, 0);
        z.pass(1);
        z.train(1, 1, 0, 0, 1);
        z.meter(0, 9);
        z.pass(1);
        DUE.is("P14 the one who came first is passed over, the other one leaves", z.ofLink(0, 1) + 10 * z.ofLink(0, 2), 10);
    }

    /** Of each limit: off with one fewer than nine tenths, on with those; on with one more than seven tenths, off with those. */
    private static void alarms() {
        for (int limit = 1; limit <= 60; limit++) {
            int on = (9 * limit + 9) / 10;
            int off = 7 * limit / 10;
            CrushLoad x = pair(limit, CrushLoad.DOOR, 1, 9);
            alarm("nobody waits", x, 0, limit, 0);
            enter(x, on - 1);
            alarm("not quite on", x, on - 1, limit, 0);
            enter(x, 1);
            alarm("on", x, on, limit, 1);
            goAboard(x, on - off - 1);
            alarm("still on", x, off + 1, limit, 1);
            goAboard(x, 1);
            alarm("off", x, off, limit, 0);
            enter(x, on - 1 - off);
            alarm("not quite on again", x, on - 1, limit, 0);
            enter(x, 1);
            alarm("on again", x, on, limit, 1);
        }
    }

    private static void alarm(String label, CrushLoad x, int waiting, int limit, int due) {
        x.pass(10);
        DUE.is("P14 " + label + ", so many wait, limit " + limit, x.ofRoom(1, 0), waiting);
        DUE.is("P14 the alarm is " + label + ", limit " + limit, x.ofRoom(1, 2), due);
    }

    private static void goAboard(CrushLoad x, int many) {
        x.train(1, 0, 0, many, 4);
        x.pass(4);
    }

    /** So many begin in a second, and no more; each kind of link has its rate. */
    private static void rates() {
        for (int kind = CrushLoad.DOOR; kind <= CrushLoad.GATE; kind++) {
            for (int rate = 0; rate <= 9; rate++) {
                String label = "P15 kind " + kind + ", rate " + rate;
                CrushLoad x = pair(60, kind, 1, rate);
                enter(x, 20);
                DUE.is(label, x.ofLink(0, 4), rate);
                x.pass(1);
                DUE.is(label + ", in a second", x.ofLink(0, 1), rate);
                x.pass(1);
                DUE.is(label + ", in two", x.ofLink(0, 1), 2 * rate);
                DUE.is(label + ", left", x.ofRoom(0, 4), 2 * rate);
                DUE.is(label + ", came", x.ofRoom(1, 3), rate);
                DUE.is(label + ", still wait for it", x.ofLink(0, 3), 20 - 2 * rate);
            }
        }
    }

    /** Those with the lower numbers begin, from whichever end, until the rate is used up. */
    private static void ratesBothWays() {
        int[] kinds = {CrushLoad.DOOR, CrushLoad.STAIR, CrushLoad.LIFT};
        for (int kind : kinds) {
            for (int rate = 0; rate <= 9; rate++) {
                CrushLoad x = new CrushLoad();
                x.room(CrushLoad.STREET, 1);
                x.room(CrushLoad.STREET, 1);
                x.link(kind, 0, 1, 1, rate);
                for (int person = 0; person < 12; person++) {
                    x.enter(person % 2, 1 - person % 2, false, true, CrushLoad.NONE);
                }
                x.pass(1);
                DUE.is("P15 forth, kind " + kind + ", rate " + rate, x.ofLink(0, 1), (rate + 1) / 2);
                DUE.is("P15 back, kind " + kind + ", rate " + rate, x.ofLink(0, 2), rate / 2);
                for (int person = 0; person < 12; person++) {
                    DUE.is("P16 person " + person + ", kind " + kind + ", rate " + rate, x.person(person, 0),
                            person < rate ? CrushLoad.ON_WAY : CrushLoad.WAITS);
                }
            }
        }
    }

    private static void halfRates() {
        for (int rate = 0; rate <= 9; rate++) {
            String label = "P7 stopped, rate " + rate;
            CrushLoad x = pair(60, CrushLoad.MOVING, 1, rate);
            enter(x, 20);
            x.stop(0, true);
            int half = rate - rate / 2;
            DUE.is(label + ", the half", x.ofLink(0, 4), half);
            x.pass(1);
            DUE.is(label + ", in a second", x.ofLink(0, 1), half);
            DUE.is(label + ", meter tells what was set", x.meter(0, rate), rate);
            DUE.is(label + ", set anew", x.ofLink(0, 4), half);
            x.stop(0, false);
            DUE.is(label + ", goes again", x.ofLink(0, 4), rate);
            x.pass(1);
            DUE.is(label + ", in a second more", x.ofLink(0, 1), half + rate);
        }
    }

    private static void steps() {
        for (int kind = CrushLoad.DOOR; kind <= CrushLoad.GATE; kind++) {
            for (int steps = 1; steps <= 5; steps++) {
                String label = "P16 kind " + kind + ", steps " + steps;
                CrushLoad x = pair(60, kind, steps, 1);
                enter(x, 1);
                DUE.is(label + ", alone", x.alone(0), steps);
                DUE.is(label + ", aloneAnew", x.aloneAnew(0), steps);
                // Another one comes in second 3, and begins in second 4.
                x = pair(60, kind, steps, 1);
                x.pass(3);
                enter(x, 1);
                x.pass(steps);
                DUE.is(label + ", a second before they are over", x.person(0, 0), CrushLoad.ON_WAY);
                DUE.is(label + ", is to come then", x.person(0, 6), 4 + steps);
                DUE.is(label + ", nobody came", x.ofRoom(1, 3), 0);
                DUE.is(label + ", one is on the way", x.ofRoom(1, 1), 1);
                x.pass(1);
                DUE.is(label + ", when they are over", x.person(0, 0), CrushLoad.WAITS);
                DUE.is(label + ", came then", x.person(0, 6), 4 + steps);
                DUE.is(label + ", the second", x.now(), 4 + steps);
                DUE.is(label + ", one came", x.ofRoom(1, 3), 1);
                DUE.is(label + ", nobody is on the way", x.ofRoom(1, 1), 0);
            }
        }
    }

    /** Forth, or turned, back; both ways if it stands; from a lower room to a higher one, and the other way round. */
    private static void movingStairs() {
        for (int from = 0; from <= 1; from++) {
            for (int how = 0; how < 4; how++) {
                boolean turned = how % 2 == 1;
                boolean stands = how > 1;
                CrushLoad x = new CrushLoad();
                x.room(CrushLoad.STREET, 1);
                x.room(CrushLoad.STREET, 1);
                x.link(CrushLoad.MOVING, from, 1 - from, 1, 9);
                x.enter(from, 1 - from, false, true, CrushLoad.NONE);
                x.enter(1 - from, from, false, true, CrushLoad.NONE);
                String label = " from " + from + (turned ? ", turned" : "") + (stands ? ", stands" : "");
                if (turned) {
                    DUE.is("P6 it goes back" + label, x.turn(0), true);
                }
                DUE.is("P7 it went" + label, x.stop(0, stands), false);
                int forth = !turned || stands ? 1 : 0;
                int back = turned || stands ? 1 : 0;
                DUE.is("P16 forth" + label, x.person(0, 3), forth - 1);
                DUE.is("P16 back" + label, x.person(1, 3), back - 1);
                both("forth" + label, x, 0, forth == 1 ? 1 : CrushLoad.NONE);
                both("back" + label, x, 1, back == 1 ? 1 : CrushLoad.NONE);
                DUE.is("P15 wait for it" + label, x.ofLink(0, 3), forth + back);
                x.pass(1);
                DUE.is("P15 began forth" + label, x.ofLink(0, 1), forth);
                DUE.is("P15 began back" + label, x.ofLink(0, 2), back);
            }
        }
    }

    private static void both(String label, CrushLoad x, int person, int want) {
        DUE.is("P20 " + label, x.alone(person), want);
        DUE.is("P21 " + label, x.aloneAnew(person), want);
    }

    /** A gate goes one way until it is ordered to clear, a moving stair one way unless it stands, also those added later. */
    private static void orderedGates() {
        for (int kind = CrushLoad.DOOR; kind <= CrushLoad.GATE; kind++) {
            CrushLoad x = pair(60, kind, 1, 1);
            x.train(1, 1, 0, 0, 1);
            boolean both = kind != CrushLoad.MOVING && kind != CrushLoad.GATE;
            DUE.is("P16 back by kind " + kind, x.person(0, 3), both ? 0 : CrushLoad.NONE);
            x.clear();
            DUE.is("P16 ordered to clear, back by kind " + kind, x.person(0, 3), kind == CrushLoad.MOVING ? CrushLoad.NONE : 0);
            x.link(CrushLoad.GATE, 0, 1, 5, 1);
            DUE.is("P20 a gate that is added then, beside kind " + kind, x.alone(0), kind == CrushLoad.MOVING ? 5 : 1);
            x.link(CrushLoad.MOVING, 0, 1, 4, 1);
            DUE.is("P20 a moving stair goes forth alone, beside kind " + kind, x.alone(0), kind == CrushLoad.MOVING ? 5 : 1);
        }
    }

    /** By doors, lifts and gates alone, also where a moving stair stands or was turned. */
    private static void chairs() {
        for (int kind = CrushLoad.DOOR; kind <= CrushLoad.GATE; kind++) {
            CrushLoad x = pair(60, kind, 1, 9);
            boolean goes = kind == CrushLoad.DOOR || kind == CrushLoad.LIFT || kind == CrushLoad.GATE;
            x.enter(0, 1, true, true, CrushLoad.NONE);
            x.enter(0, 1, true, false, CrushLoad.NONE);
            for (int person = 0; person < 2; person++) {
                DUE.is("P16 a chair by kind " + kind, x.person(person, 3), goes ? 0 : CrushLoad.NONE);
                DUE.is("P20 a chair by kind " + kind, x.alone(person), goes ? 1 : CrushLoad.NONE);
                DUE.is("P21 a chair by kind " + kind, x.aloneAnew(person), goes ? 1 : CrushLoad.NONE);
            }
            DUE.is("P15 wait for kind " + kind, x.ofLink(0, 3), goes ? 2 : 0);
            if (kind == CrushLoad.MOVING) {
                x.stop(0, true);
                DUE.is("P16 a chair by a stair that stands", x.person(0, 3), CrushLoad.NONE);
                x.turn(0);
                DUE.is("P16 nor by a turned one", x.person(0, 3), CrushLoad.NONE);
            }
            x.pass(2);
            DUE.is("P14 with a chair by kind " + kind, x.ofRoom(1, 0), goes ? 2 : 0);
        }
    }

    /** A link without persons, closed, announced, opened; and one that is added when others were announced. */
    private static void closedAndKnown() {
        CrushLoad x = pair(60, CrushLoad.DOOR, 1, 9);
        x.close(0, true);
        DUE.is("P5 one is closed", x.announce(), 1);
        x.link(CrushLoad.STAIR, 0, 1, 5, 9);
        x.enter(0, 1, false, false, CrushLoad.NONE);
        DUE.is("P16 a new link is not announced as closed", x.person(0, 3), 1);
        x.close(1, true);
        DUE.is("P16 nor known as that", x.person(0, 3), 1);
        x.pass(1);
        DUE.is("P16 but seen", x.person(0, 4), 1);
        DUE.is("P16 no way", x.person(0, 3), CrushLoad.NONE);
        x.close(0, false);
        DUE.is("P16 knows that, too", x.person(0, 3), 0);
        DUE.is("P5 the other one is closed", x.announce(), 1);
        x.close(1, false);
        DUE.is("P5 none is", x.announce(), 0);
    }
}
