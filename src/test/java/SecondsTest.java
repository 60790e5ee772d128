/** Promises 12 to 15: pass, now, ofRoom, ofLink; and the steps of a second but for trains. */
public final class SecondsTest {
    private static final Due DUE = new Due("SecondsTest");

    public static void main(String[] args) {
        seconds();
        rateBothWays();
        limitWithThoseOnTheWay();
        limitOfGroups();
        lowerLinkMakesPlace();
        byTimeThenByNumber();
        chairsAheadOnLifts();
        groupsTogether();
        groupsAndRates();
        groupsFirstByRate();
        groupsLookOnlyAtThoseInside();
        groupsAtBothEnds();
        passedOver();
        learnsOfClosing();
        groupLearnsOfClosing();
        standingStairBothWays();
        alarms();
        waitingForLinks();
        DUE.end();
    }

    /** Street 0, hall 1 with that limit, platform 2 with 60; link 0 from 0 to 1, link 1 from 1 to 2, a step each. */
    private static CrushLoad row(int limit, int rate, int rateOn) {
        CrushLoad x = new CrushLoad();
        x.room(CrushLoad.STREET, 1);
        x.room(CrushLoad.HALL, limit);
        x.room(CrushLoad.PLATFORM, 60);
        x.link(CrushLoad.DOOR, 0, 1, 1, rate);
        x.link(CrushLoad.DOOR, 1, 2, 1, rateOn);
        return x;
    }

    private static void enter(CrushLoad x, int many, int group) {
        for (int i = 0; i < many; i++) {
            x.enter(0, 2, false, true, group);
        }
    }

    private static void states(String label, CrushLoad x, int... states) {
        for (int person = 0; person < states.length; person++) {
            DUE.is(label + ", person " + person, x.person(person, 0), states[person]);
        }
    }

    private static void seconds() {
        CrushLoad x = new CrushLoad();
        DUE.wrongArgument("P12 no second", () -> x.pass(0));
        DUE.wrongArgument("P12 61 seconds", () -> x.pass(61));
        DUE.wrongArgument("P12 seconds back", () -> x.pass(Integer.MIN_VALUE));
        DUE.is("P13 none passed", x.now(), 0);
        DUE.is("P12 one", x.pass(1), 1);
        DUE.is("P12 60 more", x.pass(60), 61);
        DUE.is("P13 61 passed", x.now(), 61);
    }

    private static void rateBothWays() {
        CrushLoad x = row(20, 3, 0);
        enter(x, 2, CrushLoad.NONE);
        x.pass(2);
        // Two are in the hall; they turn back, as four more come.
        enter(x, 4, CrushLoad.NONE);
        x.clear();
        DUE.is("P14 who waited in the street is out", x.ofRoom(0, 0), 0);
        for (int i = 0; i < 2; i++) {
            x.enter(0, 2, false, true, CrushLoad.NONE);
        }
        x.pass(1);
        DUE.is("P15 forth", x.ofLink(0, 1), 3);
        DUE.is("P15 back", x.ofLink(0, 2), 2);
        x.pass(1);
        DUE.is("P15 forth, a second later", x.ofLink(0, 1), 4);
    }

    private static void limitWithThoseOnTheWay() {
        CrushLoad x = new CrushLoad();
        x.room(CrushLoad.STREET, 1);
        x.room(CrushLoad.HALL, 3);
        x.room(CrushLoad.PLATFORM, 60);
        x.link(CrushLoad.DOOR, 0, 1, 3, 2);
        x.link(CrushLoad.DOOR, 1, 2, 1, 0);
        enter(x, 9, CrushLoad.NONE);
        int[] coming = {2, 3, 3, 1, 0, 0};
        int[] waiting = {0, 0, 0, 2, 3, 3};
        for (int second = 0; second < 6; second++) {
            x.pass(1);
            DUE.is("P14 on the way, second " + second, x.ofRoom(1, 1), coming[second]);
            DUE.is("P14 waiting, second " + second, x.ofRoom(1, 0), waiting[second]);
        }
    }

    private static void limitOfGroups() {
        CrushLoad x = row(3, 9, 0);
        enter(x, 1, CrushLoad.NONE);
        enter(x, 3, 5);
        enter(x, 2, 6);
        x.pass(1);
        states("P14 a group of three has no place, one of two has", x, 1, 0, 0, 0, 1, 1);
    }

    /** Links are served by their numbers: who leaves a room by a lower one makes place for a higher one. */
    private static void lowerLinkMakesPlace() {
        CrushLoad x = new CrushLoad();
        x.room(CrushLoad.STREET, 1);
        x.room(CrushLoad.HALL, 1);
        x.room(CrushLoad.PLATFORM, 60);
        x.link(CrushLoad.DOOR, 1, 2, 1, 9);
        x.link(CrushLoad.DOOR, 0, 1, 1, 9);
        enter(x, 2, CrushLoad.NONE);
        x.pass(2);
        states("the lower link first", x, 1, 1);
        CrushLoad y = row(1, 9, 9);
        enter(y, 2, CrushLoad.NONE);
        y.pass(2);
        states("the lower link is not the one that makes place", y, 1, 0);
    }

    private static void byTimeThenByNumber() {
        CrushLoad x = new CrushLoad();
        x.room(CrushLoad.STREET, 1);
        x.room(CrushLoad.HALL, 20);
        x.room(CrushLoad.PLATFORM, 60);
        x.room(CrushLoad.STREET, 1);
        x.link(CrushLoad.DOOR, 0, 1, 3, 9);
        x.link(CrushLoad.DOOR, 3, 1, 1, 9);
        x.link(CrushLoad.DOOR, 1, 2, 1, 0);
        enter(x, 2, CrushLoad.NONE);
        x.enter(3, 2, false, true, CrushLoad.NONE);
        x.enter(3, 2, true, true, CrushLoad.NONE);
        x.pass(5);
        x.meter(2, 1);
        x.pass(1);
        states("who came first", x, 0, 0, 1, 0);
        x.pass(1);
        states("of those the lower number, a chair being nothing at a door", x, 0, 0, 0, 1);
        x.pass(1);
        states("then those who came later", x, 1, 0, 0, 0);
    }

    private static void chairsAheadOnLifts() {
        CrushLoad x = new CrushLoad();
        x.room(CrushLoad.STREET, 1);
        x.room(CrushLoad.PLATFORM, 60);
        x.link(CrushLoad.LIFT, 0, 1, 1, 1);
        x.enter(0, 1, false, true, CrushLoad.NONE);
        x.enter(0, 1, true, true, CrushLoad.NONE);
        x.meter(0, 0);
        x.pass(1);
        x.enter(0, 1, true, true, CrushLoad.NONE);
        x.meter(0, 1);
        x.pass(1);
        states("a chair goes ahead on a lift", x, 0, 1, 0);
        x.pass(1);
        states("even one who came later", x, 0, 0, 1);
        x.pass(1);
        states("then the others", x, 1, 0, 0);
        CrushLoad y = new CrushLoad();
        y.room(CrushLoad.STREET, 1);
        y.room(CrushLoad.PLATFORM, 60);
        y.link(CrushLoad.LIFT, 0, 1, 1, 5);
        for (int i = 0; i < 9; i++) {
            y.enter(0, 1, i == 3 || i == 6 || i == 8, true, CrushLoad.NONE);
        }
        y.pass(1);
        states("three with a chair, then two without", y, 1, 1, 0, 1, 0, 0, 1, 0, 1);
    }

    private static void groupsTogether() {
        CrushLoad x = row(20, 1, 0);
        enter(x, 1, 3);
        x.pass(2);
        // One of the group is in the hall and can not go on; another one comes to the street.
        states("one of a group alone", x, 0);
        enter(x, 1, 3);
        x.pass(2);
        DUE.is("who are apart do not begin", x.person(1, 1), 0);
        x.meter(1, 2);
        x.pass(3);
        DUE.is("neither of them", x.person(0, 1), 1);
        x.clear();
        DUE.is("out in the street", x.person(1, 0), CrushLoad.OUT);
        x.pass(1);
        DUE.is("the other one is alone then, and goes back", x.person(0, 0), CrushLoad.ON_WAY);
    }

    private static void groupsAndRates() {
        CrushLoad x = row(20, 3, 0);
        enter(x, 2, CrushLoad.NONE);
        enter(x, 2, 1);
        enter(x, 1, CrushLoad.NONE);
        x.pass(1);
        states("a group of two has no place of the rate behind two", x, 1, 1, 0, 0, 1);
        x.pass(1);
        DUE.is("it goes in the next second", x.person(2, 0), CrushLoad.ON_WAY);
        DUE.is("both of it", x.person(3, 0), CrushLoad.ON_WAY);
    }

    /** A group that is larger than the rate begins if nobody did in this second, and nobody does behind it. */
    private static void groupsFirstByRate() {
        CrushLoad x = row(20, 2, 0);
        enter(x, 4, 0);
        enter(x, 1, CrushLoad.NONE);
        x.pass(1);
        states("a large group first", x, 1, 1, 1, 1, 0);
        DUE.is("P15 all of it counts", x.ofLink(0, 1), 4);
        CrushLoad y = row(20, 2, 0);
        enter(y, 1, CrushLoad.NONE);
        enter(y, 3, 0);
        y.pass(1);
        states("a large group behind one", y, 1, 0, 0, 0);
        CrushLoad z = row(20, 0, 0);
        enter(z, 3, 0);
        z.pass(1);
        states("a large group with the rate 0", z, 0, 0, 0);
        CrushLoad w = row(20, 2, 0);
        enter(w, 2, 0);
        w.pass(1);
        states("a group that is as large as the rate", w, 1, 1);
        CrushLoad v = row(20, 1, 0);
        enter(v, 3, 0);
        v.pass(1);
        states("a large group with the rate 1", v, 1, 1, 1);
    }

    private static void groupsLookOnlyAtThoseInside() {
        CrushLoad x = row(20, 9, 9);
        x.enter(0, 0, false, true, 2);
        enter(x, 2, 2);
        x.pass(1);
        states("who is out is not waited for", x, 3, 1, 1);
        x.pass(2);
        x.train(2, 0, 0, 1, 1);
        x.pass(1);
        states("one goes by train", x, 3, 2, 0);
        enter(x, 1, 2);
        x.pass(1);
        DUE.is("one who waits for a train is waited for", x.person(3, 0), CrushLoad.WAITS);
        x.train(2, 0, 0, 9, 1);
        x.pass(1);
        DUE.is("who is gone is not", x.person(3, 0), CrushLoad.ON_WAY);
    }

    /** Both have the same next link, but from its two ends. */
    private static void groupsAtBothEnds() {
        CrushLoad x = new CrushLoad();
        x.room(CrushLoad.STREET, 1);
        x.room(CrushLoad.STREET, 1);
        x.link(CrushLoad.DOOR, 0, 1, 1, 9);
        x.enter(0, 1, false, true, 7);
        x.enter(1, 0, false, true, 7);
        DUE.is("the same next link", x.person(0, 3), x.person(1, 3));
        x.pass(5);
        states("at both ends", x, 0, 0);
        CrushLoad y = new CrushLoad();
        y.room(CrushLoad.STREET, 1);
        y.room(CrushLoad.STREET, 1);
        y.room(CrushLoad.STREET, 1);
        y.link(CrushLoad.DOOR, 0, 1, 1, 9);
        y.link(CrushLoad.DOOR, 0, 2, 1, 9);
        y.enter(0, 1, false, true, 7);
        y.enter(0, 2, false, true, 7);
        y.pass(5);
        states("with other next links", y, 0, 0);
    }

    private static void passedOver() {
        CrushLoad x = row(2, 9, 0);
        enter(x, 3, 1);
        enter(x, 3, CrushLoad.NONE);
        x.pass(1);
        states("a group without places is passed over", x, 0, 0, 0, 1, 1, 0);
    }

    private static void learnsOfClosing() {
        CrushLoad x = row(20, 9, 9);
        x.link(CrushLoad.DOOR, 0, 1, 2, 9);
        x.enter(0, 2, false, false, CrushLoad.NONE);
        x.enter(0, 2, false, true, CrushLoad.NONE);
        x.close(0, true);
        DUE.is("P16 does not know of it", x.person(0, 3), 0);
        DUE.is("P15 waits for the closed one", x.ofLink(0, 3), 1);
        x.pass(1);
        states("one learns, the other one knew", x, 0, 1);
        DUE.is("P16 knows from then on", x.person(0, 4), 1);
        DUE.is("P16 the other link", x.person(0, 3), 2);
        x.pass(1);
        DUE.is("begins a second later", x.person(0, 0), CrushLoad.ON_WAY);
        DUE.is("P15 none on the closed one", x.ofLink(0, 1), 0);
        CrushLoad y = row(20, 9, 9);
        y.enter(0, 2, false, false, CrushLoad.NONE);
        y.close(1, true);
        y.pass(1);
        DUE.is("a closing further on is not seen", y.person(0, 0), CrushLoad.ON_WAY);
        DUE.is("nor known", y.person(0, 4), 0);
        y.pass(1);
        DUE.is("but there it is", y.person(0, 4), 1);
    }

    /** One of a group loses the second, and so all do. */
    private static void groupLearnsOfClosing() {
        CrushLoad x = row(20, 9, 9);
        x.link(CrushLoad.DOOR, 0, 1, 2, 9);
        x.close(0, true);
        x.enter(0, 2, false, true, 1);
        x.enter(0, 2, false, false, 1);
        x.pass(1);
        states("one of a group learns", x, 0, 0);
        x.pass(1);
        states("then all begin", x, 1, 1);
    }

    private static void standingStairBothWays() {
        CrushLoad x = new CrushLoad();
        x.room(CrushLoad.STREET, 1);
        x.room(CrushLoad.STREET, 1);
        x.link(CrushLoad.MOVING, 0, 1, 1, 3);
        x.enter(0, 1, false, true, CrushLoad.NONE);
        x.enter(1, 0, false, true, CrushLoad.NONE);
        x.enter(1, 0, false, true, CrushLoad.NONE);
        x.enter(1, 0, true, true, CrushLoad.NONE);
        x.pass(1);
        states("a moving stair forth", x, 1, 0, 0, 0);
        x.turn(0);
        x.enter(0, 1, false, true, CrushLoad.NONE);
        x.pass(1);
        states("a turned one back, but not with a chair", x, 3, 1, 1, 0, 0);
        x.stop(0, true);
        x.enter(1, 0, false, true, CrushLoad.NONE);
        x.enter(1, 0, false, true, CrushLoad.NONE);
        x.pass(1);
        states("one that stands, with the half of the rate", x, 3, 3, 3, 0, 1, 1, 0);
        DUE.is("P15 forth", x.ofLink(0, 1), 2);
        DUE.is("P15 back", x.ofLink(0, 2), 3);
    }

    /** Limit 10: on from 9, off from 7; limit 5: on from 5 (4.5), off from 3 (3.5). */
    private static void alarms() {
        CrushLoad x = new CrushLoad();
        x.room(CrushLoad.STREET, 1);
        x.room(CrushLoad.PLATFORM, 10);
        x.link(CrushLoad.DOOR, 0, 1, 1, 1);
        for (int i = 0; i < 10; i++) {
            x.enter(0, 1, false, true, CrushLoad.NONE);
        }
        x.pass(9);
        DUE.is("P14 eight wait", x.ofRoom(1, 0), 8);
        DUE.is("P14 no alarm yet", x.ofRoom(1, 2), 0);
        x.meter(0, 0);
        x.pass(1);
        DUE.is("P14 nine wait", x.ofRoom(1, 0), 9);
        DUE.is("P14 the alarm is on", x.ofRoom(1, 2), 1);
        x.train(1, 0, 0, 1, 1);
        x.pass(1);
        DUE.is("P14 eight wait again", x.ofRoom(1, 0), 8);
        DUE.is("P14 the alarm does not flicker", x.ofRoom(1, 2), 1);
        x.train(1, 0, 0, 1, 1);
        DUE.is("P14 only in a second", x.ofRoom(1, 2), 1);
        x.pass(1);
        DUE.is("P14 seven wait", x.ofRoom(1, 0), 7);
        DUE.is("P14 the alarm is off", x.ofRoom(1, 2), 0);
        CrushLoad y = new CrushLoad();
        y.room(CrushLoad.STREET, 1);
        y.room(CrushLoad.PLATFORM, 5);
        int[] alight = {4, 1};
        for (int i = 0; i < 2; i++) {
            y.train(1, alight[i], 0, 0, 1);
            y.pass(1);
            DUE.is("P14 a limit of 5, " + i, y.ofRoom(1, 2), i);
        }
        y.enter(0, 1, false, true, CrushLoad.NONE);
        for (int i = 0; i < 99; i++) {
            y.enter(0, 1, false, true, CrushLoad.NONE);
        }
        y.pass(1);
        DUE.is("P14 a street has no alarm", y.ofRoom(0, 2), 0);
        CrushLoad z = new CrushLoad();
        z.room(CrushLoad.PLATFORM, 1);
        z.room(CrushLoad.STREET, 1);
        z.train(0, 1, 1, 0, 1);
        z.pass(1);
        DUE.is("P14 the alarm of the first room", z.ofRoom(0, 2), 1);
    }

    private static void waitingForLinks() {
        CrushLoad x = row(20, 1, 1);
        enter(x, 5, CrushLoad.NONE);
        DUE.is("P15 five wait for it", x.ofLink(0, 3), 5);
        x.pass(2);
        DUE.is("P15 three wait for it", x.ofLink(0, 3), 3);
        DUE.is("P15 on the way nobody waits", x.ofLink(1, 3), 0);
        x.meter(1, 0);
        x.pass(1);
        DUE.is("P15 one waits for the other one", x.ofLink(1, 3), 1);
    }
}
