/** The edges of ways, of clearing and of what is foretold: the least distance by one, the lowest, the last second. */
public final class EdgesOfClearingTest {
    private static final Due DUE = new Due("EdgesOfClearingTest");

    public static void main(String[] args) {
        leastByOne();
        lowestOfEqual();
        longest();
        nearestStreet();
        nearestFromTheWay();
        noStreet();
        counts();
        whoIsOut();
        later();
        foretellLastSecond();
        foretellAll();
        clearsNow();
        clearsLastSecond();
        clearsNever();
        DUE.end();
    }

    private static void both(String label, CrushLoad x, int person, int want) {
        DUE.is("P20 " + label, x.alone(person), want);
        DUE.is("P21 " + label, x.aloneAnew(person), want);
    }

    /** Two ways from street 0 to platform 2: at once by link 0, or through hall 1 by links 1 and 2. */
    private static void leastByOne() {
        for (int steps = 1; steps <= 5; steps++) {
            for (int first = 1; first <= 5; first++) {
                for (int second = 1; second <= 5; second++) {
                    CrushLoad x = new CrushLoad();
                    x.room(CrushLoad.STREET, 1);
                    x.room(CrushLoad.HALL, 9);
                    x.room(CrushLoad.PLATFORM, 9);
                    x.link(CrushLoad.DOOR, 0, 2, steps, 9);
                    x.link(CrushLoad.DOOR, 0, 1, first, 9);
                    x.link(CrushLoad.DOOR, 2, 1, second, 9);
                    x.enter(0, 2, false, true, CrushLoad.NONE);
                    String label = steps + " or " + first + " and " + second;
                    both(label, x, 0, Math.min(steps, first + second));
                    DUE.is("P16 " + label, x.person(0, 3), steps <= first + second ? 0 : 1);
                }
            }
        }
    }

    /** Of as many links as may be, alike, the lowest that is open; the one that is a step less if there is one. */
    private static void lowestOfEqual() {
        CrushLoad x = new CrushLoad();
        x.room(CrushLoad.STREET, 1);
        x.room(CrushLoad.PLATFORM, 9);
        for (int link = 0; link < 14; link++) {
            x.link(CrushLoad.DOOR, link % 2, 1 - link % 2, link == 13 ? 3 : 4, 1);
        }
        x.enter(0, 1, false, true, CrushLoad.NONE);
        DUE.is("P16 the last one is a step less", x.person(0, 3), 13);
        both("by the last one", x, 0, 3);
        x.close(13, true);
        for (int link = 0; link < 13; link++) {
            DUE.is("P16 the lowest one, link " + link, x.person(0, 3), link);
            both("as far by link " + link, x, 0, 4);
            x.close(link, true);
        }
        DUE.is("P16 none is open", x.person(0, 3), CrushLoad.NONE);
        both("none is open", x, 0, CrushLoad.NONE);
    }

    /** Through all ten rooms, one way and the other; and nothing to be reached behind the gap. */
    private static void longest() {
        for (int gap = 0; gap <= 9; gap++) {
            CrushLoad x = new CrushLoad();
            x.room(CrushLoad.STREET, 1);
            for (int room = 1; room < 9; room++) {
                x.room(CrushLoad.HALL, 60);
            }
            x.room(CrushLoad.STREET, 1);
            for (int link = 0; link < 9; link++) {
                x.link(CrushLoad.DOOR, link, link + 1, 5, 9);
            }
            x.enter(0, 9, true, true, CrushLoad.NONE);
            x.enter(9, 0, false, false, CrushLoad.NONE);
            if (gap < 9) {
                x.close(gap, true);
            }
            both("from the first room, gap " + gap, x, 0, gap < 9 ? CrushLoad.NONE : 45);
            both("not known of, gap " + gap, x, 1, 45);
            DUE.is("P16 the last link, gap " + gap, x.person(1, 3), 8);
            x.announce();
            both("announced, gap " + gap, x, 1, gap < 9 ? CrushLoad.NONE : 45);
            DUE.is("P18 still there in 60 seconds, gap " + gap, x.foretell(9, 60), gap < 9 ? 1 : 0);
            x.pass(45);
            DUE.is("P16 not yet there, gap " + gap, x.person(0, 0), gap < 9 ? CrushLoad.WAITS : CrushLoad.ON_WAY);
            x.pass(1);
            DUE.is("P16 there, gap " + gap, x.person(0, 0), gap < 9 ? CrushLoad.WAITS : CrushLoad.OUT);
        }
    }

    /** Streets 0 and 2 on both sides of platform 1: the nearer one, and of as near ones the lowest. */
    private static void nearestStreet() {
        for (int one = 1; one <= 5; one++) {
            for (int other = 1; other <= 5; other++) {
                CrushLoad x = new CrushLoad();
                x.room(CrushLoad.STREET, 1);
                x.room(CrushLoad.PLATFORM, 9);
                x.room(CrushLoad.STREET, 1);
                x.link(CrushLoad.DOOR, 1, 2, other, 9);
                x.link(CrushLoad.DOOR, 1, 0, one, 9);
                x.train(1, 1, 2, 0, 1);
                DUE.is("P11 " + one + " or " + other, x.clear(), one <= other ? 1 : 0);
                DUE.is("P11 the goal, " + one + " or " + other, x.person(0, 2), one <= other ? 0 : 2);
            }
        }
    }

    /** From the room to which they go, not from that where they were. */
    private static void nearestFromTheWay() {
        for (int one = 1; one <= 5; one++) {
            CrushLoad x = new CrushLoad();
            x.room(CrushLoad.STREET, 1);
            x.room(CrushLoad.PLATFORM, 9);
            x.room(CrushLoad.STREET, 1);
            x.link(CrushLoad.STAIR, 0, 1, one, 9);
            x.link(CrushLoad.STAIR, 1, 2, 3, 9);
            x.enter(0, 1, false, true, CrushLoad.NONE);
            x.pass(1);
            DUE.is("P11 one has another goal, " + one, x.clear(), 1);
            DUE.is("P11 the goal, " + one, x.person(0, 2), one <= 3 ? 0 : 2);
            DUE.is("P11 goes on to that room, " + one, x.person(0, 1), 1);
            x.pass(one);
            DUE.is("P11 then to the street, " + one, x.person(0, 1), one <= 3 ? 0 : 2);
            x.pass(Math.min(one, 3));
            DUE.is("P11 is out, " + one, x.person(0, 0), CrushLoad.OUT);
        }
    }

    /** Who can reach none keeps the goal; who can reach just one has that, however far it is. */
    private static void noStreet() {
        CrushLoad x = new CrushLoad();
        x.room(CrushLoad.PLATFORM, 9);
        x.room(CrushLoad.STREET, 1);
        x.room(CrushLoad.STREET, 1);
        x.link(CrushLoad.MOVING, 1, 0, 1, 9);
        x.enter(1, 0, false, true, CrushLoad.NONE);
        x.train(0, 1, 1, 0, 1);
        x.pass(2);
        DUE.is("P11 none can be reached", x.clear(), 0);
        DUE.is("P11 keeps the platform", x.person(0, 2), 0);
        DUE.is("P11 keeps the street", x.person(1, 2), 1);
        DUE.is("P11 wants no train all the same", x.person(0, 5), 0);
        DUE.is("P16 waits at the goal", x.person(0, 0), CrushLoad.WAITS);
        both("at the goal", x, 0, 0);
        x.link(CrushLoad.MOVING, 0, 2, 5, 9);
        DUE.is("P11 one can be reached", x.clear(), 2);
        DUE.is("P11 that one", x.person(0, 2), 2);
        DUE.is("P11 and that instead of the other one", x.person(1, 2), 2);
    }

    /** Street 0, platform 1, street 2; doors of two steps and of one. */
    private static CrushLoad between() {
        CrushLoad x = new CrushLoad();
        x.room(CrushLoad.STREET, 1);
        x.room(CrushLoad.PLATFORM, 60);
        x.room(CrushLoad.STREET, 1);
        x.link(CrushLoad.DOOR, 0, 1, 2, 9);
        x.link(CrushLoad.DOOR, 1, 2, 1, 9);
        return x;
    }

    /** Who had a platform, or another street; not who had that street already, or is out, or gone. */
    private static void counts() {
        DUE.is("P11 nobody is there", between().clear(), 0);
        CrushLoad x = between();
        x.enter(0, 0, false, true, CrushLoad.NONE);
        DUE.is("P11 who is out does not count", x.clear(), 0);
        x = between();
        x.enter(0, 1, false, true, CrushLoad.NONE);
        x.pass(3);
        x.train(1, 0, 0, 1, 1);
        x.pass(1);
        DUE.is("P16 one is gone", x.person(0, 0), CrushLoad.GONE);
        DUE.is("P11 who is gone does not count", x.clear(), 0);
        DUE.is("P11 nor has another goal", x.person(0, 2), 1);
        x = between();
        x.enter(0, 1, false, true, CrushLoad.NONE);
        DUE.is("P11 who had a platform", x.clear(), 1);
        x = between();
        x.enter(0, 2, false, true, CrushLoad.NONE);
        DUE.is("P11 who had another street", x.clear(), 1);
        x = between();
        x.train(1, 20, 2, 0, 1);
        DUE.is("P11 who had that street already", x.clear(), 0);
        x = between();
        x.train(1, 20, 0, 0, 1);
        DUE.is("P11 who alighted for the other street", x.clear(), 20);
        DUE.is("P11 and have that now", x.clear(), 0);
        x = between();
        for (int person = 0; person < 120; person++) {
            x.enter(person % 2 * 2, 1, false, true, CrushLoad.NONE);
        }
        x.pass(3);
        DUE.is("P11 all that there can be", x.clear(), 120);
    }

    /** Who waits in the street that is the goal then is out, and left that street; nobody else is. */
    private static void whoIsOut() {
        CrushLoad x = between();
        x.enter(0, 1, false, true, CrushLoad.NONE);
        x.enter(2, 1, false, true, CrushLoad.NONE);
        x.pass(1);
        x.enter(0, 2, false, true, CrushLoad.NONE);
        x.enter(2, 0, false, true, CrushLoad.NONE);
        x.train(1, 1, 2, 0, 1);
        DUE.is("P14 one left street 0", x.ofRoom(0, 4), 1);
        x.clear();
        int[] due = {CrushLoad.ON_WAY, CrushLoad.ON_WAY, CrushLoad.OUT, CrushLoad.OUT, CrushLoad.WAITS};
        for (int person = 0; person < due.length; person++) {
            DUE.is("P11 person " + person, x.person(person, 0), due[person]);
        }
        DUE.is("P14 two left street 0", x.ofRoom(0, 4), 2);
        DUE.is("P14 two left street 2", x.ofRoom(2, 4), 2);
        DUE.is("P14 nobody left the platform", x.ofRoom(1, 4), 0);
        DUE.is("P16 out with that street as the goal", x.person(3, 2), 2);
        DUE.is("P16 and no next link", x.person(3, 3), CrushLoad.NONE);
        x.clear();
        DUE.is("P14 nobody leaves it twice", x.ofRoom(0, 4) + x.ofRoom(2, 4), 4);
    }

    /** Who comes later wants no train, and has the goal with which they came, until it is ordered again. */
    private static void later() {
        CrushLoad x = between();
        x.clear();
        x.enter(0, 1, false, true, CrushLoad.NONE);
        DUE.is("P16 wants no train", x.person(0, 5), 0);
        DUE.is("P16 has the platform as the goal", x.person(0, 2), 1);
        x.pass(3);
        x.train(1, 0, 0, 9, 9);
        x.pass(9);
        DUE.is("P17 nobody goes aboard", x.ofTrain(0, 0), 0);
        DUE.is("P17 it does not stay for them", x.ofTrain(0, 2), 0);
        DUE.is("P19 ordered again, they would go out", x.clears(), 2);
        DUE.is("P11 ordered again", x.clear(), 1);
    }

    /** One begins in a second, so in second k one fewer than k is there. */
    private static void foretellLastSecond() {
        CrushLoad x = new CrushLoad();
        x.room(CrushLoad.STREET, 1);
        x.room(CrushLoad.PLATFORM, 60);
        x.link(CrushLoad.STAIR, 0, 1, 1, 1);
        for (int person = 0; person < 70; person++) {
            x.enter(0, 1, false, true, CrushLoad.NONE);
        }
        for (int seconds = 1; seconds <= 60; seconds++) {
            DUE.is("P18 there in " + seconds, x.foretell(1, seconds), seconds - 1);
            DUE.is("P18 still in the street in " + seconds, x.foretell(0, seconds), 70 - seconds);
        }
        x.pass(1);
        DUE.is("P18 a second later", x.foretell(1, 60), 60);
        x.pass(1);
        DUE.is("P18 never more than the limit", x.foretell(1, 60), 60);
    }

    /** Of the least station and of the fullest one, in all rooms. */
    private static void foretellAll() {
        CrushLoad x = new CrushLoad();
        x.room(CrushLoad.HALL, 1);
        DUE.is("P18 of an empty room, in a second", x.foretell(0, 1), 0);
        DUE.is("P18 of an empty room, in 60", x.foretell(0, 60), 0);
        CrushLoad y = fullLine();
        CrushLoad z = fullLine();
        for (int seconds = 1; seconds <= 25; seconds++) {
            z.pass(1);
            for (int room = 0; room < 10; room++) {
                DUE.is("P18 room " + room + " in " + seconds, y.foretell(room, seconds), z.ofRoom(room, 0));
            }
        }
    }

    /** Ten rooms in a row, 14 links, 120 persons, and a train at the last room. */
    private static CrushLoad fullLine() {
        CrushLoad x = new CrushLoad();
        x.room(CrushLoad.STREET, 1);
        for (int room = 1; room < 10; room++) {
            x.room(CrushLoad.PLATFORM, 3 + room);
        }
        for (int link = 0; link < 14; link++) {
            x.link(link % 5, link % 9, link % 9 + 1, 1 + link % 3, 1 + link % 5);
        }
        x.train(9, 20, 0, 30, 9);
        for (int person = x.ofTrain(0, 1); person < 120; person++) {
            x.enter(0, 1 + person % 9, person % 4 == 0, person % 3 == 0, person % 6 == 0 ? person / 20 : CrushLoad.NONE);
        }
        return x;
    }

    private static void clearsNow() {
        CrushLoad x = between();
        DUE.is("P19 nobody came", x.clears(), 0);
        x.enter(2, 1, false, true, CrushLoad.NONE);
        DUE.is("P19 in a street, out at once", x.clears(), 0);
        x.pass(1);
        // Comes in second 2, begins then, and is out in second 3.
        DUE.is("P19 on the way", x.clears(), 2);
        x.pass(1);
        // Begins in the next second.
        DUE.is("P19 there", x.clears(), 2);
        x.clear();
        x.pass(1);
        DUE.is("P19 on the way out", x.clears(), 1);
        x.pass(1);
        DUE.is("P19 out", x.clears(), 0);
    }

    /** So many on the last platform, of whom one begins in a second, and 45 steps from there. */
    private static void clearsLastSecond() {
        for (int many = 0; many <= 60; many++) {
            CrushLoad x = new CrushLoad();
            x.room(CrushLoad.STREET, 1);
            for (int room = 1; room < 10; room++) {
                x.room(CrushLoad.PLATFORM, 60);
            }
            for (int link = 0; link < 9; link++) {
                x.link(CrushLoad.STAIR, link, link + 1, 5, link < 8 ? 9 : 0);
            }
            for (int left = many; left > 0; left -= 20) {
                x.train(9, Math.min(20, left), 0, 0, 1);
                x.pass(1);
            }
            DUE.is("P14 so many", x.ofRoom(9, 0), many);
            DUE.is("P19 a rate of 0, " + many, x.clears(), many == 0 ? 0 : CrushLoad.NONE);
            x.meter(8, 1);
            DUE.is("P19 " + many + " and 45 seconds", x.clears(), many == 0 ? 0 : many <= 55 ? many + 45 : CrushLoad.NONE);
        }
    }

    /** One who can not get out is enough. */
    private static void clearsNever() {
        CrushLoad x = between();
        x.train(1, 5, 0, 0, 1);
        DUE.is("P19 all get out", x.clears(), 2);
        x.link(CrushLoad.LIFT, 0, 1, 3, 9);
        x.close(0, true);
        x.close(1, true);
        x.announce();
        DUE.is("P19 by the lift", x.clears(), 4);
        x.close(2, true);
        DUE.is("P19 they do not know, and then there is no way", x.clears(), CrushLoad.NONE);
        CrushLoad y = between();
        y.room(CrushLoad.PLATFORM, 9);
        y.train(1, 5, 0, 0, 1);
        y.train(3, 1, 0, 0, 1);
        DUE.is("P19 one has no way", y.clears(), CrushLoad.NONE);
    }
}
