/** The edges that "Terms" names of those who begin: groups that just fit, who is ahead of whom, who just learnt of a closing. */
public final class EdgesOfGroupsTest {
    private static final Due DUE = new Due("EdgesOfGroupsTest");

    public static void main(String[] args) {
        groupNumbers();
        rateFirst();
        rateBehindOthers();
        nothingBehindLarge();
        places();
        placesOnTheWay();
        whole();
        onlyThoseInside();
        oneWithAnotherLink();
        aheadOnLifts();
        aheadByTime();
        learns();
        learnsNot();
        DUE.end();
    }

    /** Street 0, platform 1 with that limit, street 2; link 0 of a step with that rate from 0 to 1, link 1 from 1 to 2. */
    private static CrushLoad station(int limit, int kind, int rate) {
        CrushLoad x = new CrushLoad();
        x.room(CrushLoad.STREET, 1);
        x.room(CrushLoad.PLATFORM, limit);
        x.room(CrushLoad.STREET, 1);
        x.link(kind, 0, 1, 1, rate);
        x.link(CrushLoad.DOOR, 1, 2, 1, 9);
        return x;
    }

    private static void enter(CrushLoad x, int many, int group) {
        for (int i = 0; i < many; i++) {
            x.enter(0, 1, false, true, group);
        }
    }

    private static void begun(String label, CrushLoad x, int want) {
        x.pass(1);
        DUE.is("P15 " + label, x.ofLink(0, 1), want);
    }

    private static void states(String label, CrushLoad x, int... states) {
        for (int person = 0; person < states.length; person++) {
            DUE.is("P16 " + label + ", person " + person, x.person(person, 0), states[person]);
        }
    }

    /** All groups are groups, each one of its own; and none is no group. */
    private static void groupNumbers() {
        for (int group = -1; group <= 9; group++) {
            CrushLoad x = station(60, CrushLoad.DOOR, 1);
            enter(x, 3, group);
            begun("of three in group " + group, x, group == CrushLoad.NONE ? 1 : 3);
        }
        CrushLoad x = station(60, CrushLoad.DOOR, 9);
        for (int group = 0; group <= 9; group++) {
            enter(x, 1, group);
        }
        x.enter(2, 0, false, true, 5);
        begun("all groups but that with one elsewhere", x, 9);
        states("neither that one", x, 1, 1, 1, 1, 1, 0, 1, 1, 1, 1, 0);
    }

    /** Nobody began yet: a group of any size begins, unless the rate is 0. */
    private static void rateFirst() {
        for (int rate = 0; rate <= 9; rate++) {
            for (int size = 1; size <= 12; size++) {
                CrushLoad x = station(60, CrushLoad.DOOR, rate);
                enter(x, size, 0);
                begun("a group of " + size + " first, rate " + rate, x, rate == 0 ? 0 : size);
            }
        }
    }

    /** Some began: a group begins if the rate has places for all of it. */
    private static void rateBehindOthers() {
        for (int rate = 1; rate <= 9; rate++) {
            for (int others = 1; others <= rate; others++) {
                for (int size = 1; size <= 10; size++) {
                    CrushLoad x = station(60, CrushLoad.STAIR, rate);
                    enter(x, others, CrushLoad.NONE);
                    enter(x, size, 9);
                    String label = "a group of " + size + " behind " + others + ", rate " + rate;
                    begun(label, x, others + size <= rate ? others + size : others);
                    begun(label + ", a second later", x, others + size);
                }
            }
        }
    }

    /** Behind a group that is as large as the rate, or larger, nobody begins; behind a smaller one, so many. */
    private static void nothingBehindLarge() {
        for (int rate = 1; rate <= 9; rate++) {
            for (int size = 1; size <= 10; size++) {
                CrushLoad x = station(60, CrushLoad.GATE, rate);
                enter(x, size, 3);
                enter(x, 20, CrushLoad.NONE);
                begun("one by one behind a group of " + size + ", rate " + rate, x, Math.max(size, rate));
                CrushLoad y = station(60, CrushLoad.DOOR, rate);
                enter(y, size, 3);
                enter(y, 2, 4);
                begun("two behind a group of " + size + ", rate " + rate, y, size + 2 <= rate ? size + 2 : size);
            }
        }
    }

    /** There have to be places for all of it in the room; who is passed over is not in the way of those behind. */
    private static void places() {
        for (int limit = 1; limit <= 9; limit++) {
            for (int size = 1; size <= 10; size++) {
                CrushLoad x = station(limit, CrushLoad.DOOR, 9);
                enter(x, size, 0);
                String label = "a group of " + size + ", limit " + limit;
                begun(label, x, size <= limit ? size : 0);
                enter(x, 1, CrushLoad.NONE);
                int due = size < limit ? size + 1 : size == limit ? size : 1;
                begun("one behind " + label, x, due);
            }
        }
    }

    private static void placesOnTheWay() {
        for (int there = 0; there <= 5; there++) {
            CrushLoad x = station(5, CrushLoad.DOOR, 9);
            enter(x, there, CrushLoad.NONE);
            enter(x, 3, 0);
            begun("three behind " + there + " on the way to a room for five", x, there <= 2 ? there + 3 : there);
            DUE.is("P14 on the way, " + there, x.ofRoom(1, 1), there <= 2 ? there + 3 : there);
        }
    }

    /** All of it have to wait in that room: not one elsewhere, and not one on the way. */
    private static void whole() {
        CrushLoad x = station(60, CrushLoad.DOOR, 9);
        enter(x, 2, 7);
        x.enter(2, 1, false, true, 7);
        x.pass(20);
        states("one waits in another room", x, 0, 0, 0);
        CrushLoad y = station(60, CrushLoad.DOOR, 9);
        y.enter(2, 0, false, true, 7);
        y.pass(1);
        enter(y, 1, 7);
        y.pass(1);
        DUE.is("P16 one comes, and waits in another room", y.person(0, 1), 1);
        states("so neither of them goes", y, 0, 0);
    }

    /** Who is out or gone is not looked at; who waits for a train is. */
    private static void onlyThoseInside() {
        CrushLoad x = station(60, CrushLoad.DOOR, 9);
        x.enter(0, 0, false, true, 1);
        x.enter(2, 2, false, true, 1);
        enter(x, 2, 1);
        x.pass(2);
        states("who is out is not", x, 3, 3, 0, 0);
        enter(x, 1, 1);
        x.pass(3);
        states("who waits for a train is", x, 3, 3, 0, 0, 0);
        x.train(1, 0, 0, 1, 1);
        x.pass(2);
        states("one of the two is gone, the other one waits still", x, 3, 3, 2, 0, 0);
        x.train(1, 0, 0, 1, 1);
        x.pass(1);
        states("both are gone: in that very second it begins", x, 3, 3, 2, 2, 1);
    }

    /** One of a group with a chair has another next link, or none. */
    private static void oneWithAnotherLink() {
        CrushLoad x = station(60, CrushLoad.STAIR, 9);
        enter(x, 2, 2);
        x.enter(0, 1, true, true, 2);
        x.pass(5);
        states("one has none", x, 0, 0, 0);
        x.link(CrushLoad.LIFT, 0, 1, 2, 9);
        x.pass(5);
        states("one has another one", x, 0, 0, 0);
        x.close(0, true);
        x.pass(1);
        states("all have the same", x, 1, 1, 1);
        CrushLoad y = new CrushLoad();
        y.room(CrushLoad.STREET, 1);
        y.room(CrushLoad.HALL, 9);
        y.room(CrushLoad.STREET, 1);
        y.room(CrushLoad.PLATFORM, 9);
        y.link(CrushLoad.DOOR, 0, 1, 1, 9);
        y.link(CrushLoad.DOOR, 1, 2, 1, 9);
        y.link(CrushLoad.DOOR, 1, 3, 1, 9);
        y.enter(0, 2, false, true, 0);
        y.enter(0, 3, false, true, 0);
        y.pass(9);
        DUE.is("P16 the same way first", y.person(0, 1), 1);
        states("then they part, and neither goes", y, 0, 0);
    }

    private static void aheadOnLifts() {
        for (int kind = CrushLoad.DOOR; kind <= CrushLoad.GATE; kind += 2) {
            CrushLoad x = station(60, kind, 2);
            enter(x, 2, CrushLoad.NONE);
            x.enter(0, 1, true, true, CrushLoad.NONE);
            x.pass(1);
            boolean ahead = kind == CrushLoad.LIFT;
            states("chairs ahead, kind " + kind, x, 1, ahead ? 0 : 1, ahead ? 1 : 0);
        }
        CrushLoad x = station(60, CrushLoad.LIFT, 3);
        enter(x, 2, CrushLoad.NONE);
        x.enter(0, 1, true, true, 4);
        enter(x, 1, 4);
        enter(x, 1, CrushLoad.NONE);
        x.pass(1);
        states("a chair takes its group along", x, 1, 0, 1, 1, 0);
        CrushLoad y = station(60, CrushLoad.LIFT, 1);
        for (int person = 0; person < 4; person++) {
            y.enter(0, 1, person >= 2, true, CrushLoad.NONE);
        }
        int[][] due = {{0, 0, 1, 0}, {0, 0, 0, 1}, {1, 0, 0, 0}, {0, 1, 0, 0}};
        for (int second = 0; second < 4; second++) {
            y.pass(1);
            states("one by one on a lift, second " + second, y, due[second]);
        }
    }

    /** A second earlier is earlier, whatever the numbers; in the same second the lower number is ahead. */
    private static void aheadByTime() {
        CrushLoad x = new CrushLoad();
        x.room(CrushLoad.STREET, 1);
        x.room(CrushLoad.HALL, 60);
        x.room(CrushLoad.PLATFORM, 60);
        x.room(CrushLoad.STREET, 1);
        x.link(CrushLoad.DOOR, 0, 1, 3, 9);
        x.link(CrushLoad.DOOR, 3, 1, 2, 9);
        x.link(CrushLoad.LIFT, 1, 2, 1, 0);
        x.enter(0, 2, false, true, CrushLoad.NONE);
        x.enter(0, 2, false, true, CrushLoad.NONE);
        x.enter(3, 2, false, true, CrushLoad.NONE);
        x.pass(1);
        x.enter(3, 2, false, true, CrushLoad.NONE);
        x.pass(4);
        int[] came = {4, 4, 3, 4};
        for (int person = 0; person < 4; person++) {
            DUE.is("P16 came, person " + person, x.person(person, 6), came[person]);
        }
        x.meter(2, 1);
        int[][] due = {{0, 0, 1, 0}, {1, 0, 0, 0}, {0, 1, 0, 0}, {0, 0, 0, 1}};
        for (int second = 0; second < 4; second++) {
            x.pass(1);
            states("by time, second " + second, x, due[second]);
        }
    }

    /** Who waits before a closing learns of it, and loses that second alone. */
    private static void learns() {
        CrushLoad x = station(60, CrushLoad.DOOR, 9);
        x.link(CrushLoad.DOOR, 0, 1, 1, 9);
        x.enter(0, 1, false, false, CrushLoad.NONE);
        x.enter(0, 1, false, true, CrushLoad.NONE);
        x.close(0, true);
        DUE.is("P16 not yet", x.person(0, 4), 0);
        DUE.is("P16 the closed one is the next", x.person(0, 3), 0);
        x.pass(1);
        DUE.is("P16 knows", x.person(0, 4), 1);
        states("but not in that second", x, 0, 1);
        DUE.is("P16 the other one is the next", x.person(0, 3), 2);
        x.pass(1);
        states("in the second behind it", x, 1, 0);
    }

    /** Who has no next link, is on the way, or whose closing is announced, learns nothing. */
    private static void learnsNot() {
        CrushLoad x = station(60, CrushLoad.DOOR, 9);
        x.enter(0, 2, false, false, CrushLoad.NONE);
        x.enter(0, 1, false, false, CrushLoad.NONE);
        x.pass(1);
        x.close(0, true);
        x.close(1, true);
        x.pass(1);
        DUE.is("P16 comes, and stands before a closing", x.person(0, 4), 1);
        DUE.is("P16 is at the goal", x.person(1, 4), 0);
        CrushLoad y = station(60, CrushLoad.DOOR, 9);
        y.close(0, true);
        y.announce();
        y.enter(0, 1, false, false, CrushLoad.NONE);
        y.pass(9);
        DUE.is("P16 it was announced", y.person(0, 4), 0);
        y.close(0, false);
        y.pass(9);
        DUE.is("P16 its opening was not, so nobody goes", y.ofLink(0, 1), 0);
        CrushLoad z = station(60, CrushLoad.STAIR, 9);
        z.close(0, true);
        z.enter(0, 1, true, false, CrushLoad.NONE);
        z.pass(9);
        DUE.is("P16 with a chair it is no way", z.person(0, 4), 0);
        CrushLoad w = station(60, CrushLoad.DOOR, 0);
        w.enter(0, 1, false, false, CrushLoad.NONE);
        w.pass(9);
        DUE.is("P16 a rate of 0 is no closing", w.person(0, 4), 0);
    }
}
