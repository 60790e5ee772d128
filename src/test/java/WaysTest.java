/** Promises 20 and 21: alone, aloneAnew; and 16 for next links. */
public final class WaysTest {
    private static final Due DUE = new Due("WaysTest");

    public static void main(String[] args) {
        wrong();
        leastSum();
        lowestLink();
        fromWhereTheyGo();
        knowledge();
        longestWay();
        manyWays();
        atTheFirstRoom();
        DUE.end();
    }

    private static void both(String label, CrushLoad x, int person, int want) {
        DUE.is("P20 " + label, x.alone(person), want);
        DUE.is("P21 " + label, x.aloneAnew(person), want);
    }

    private static CrushLoad rooms(int platforms) {
        CrushLoad x = new CrushLoad();
        x.room(CrushLoad.STREET, 1);
        for (int i = 0; i < platforms; i++) {
            x.room(CrushLoad.PLATFORM, 60);
        }
        return x;
    }

    private static void wrong() {
        CrushLoad x = rooms(1);
        DUE.outOfBounds("P20 no person 0", () -> x.alone(0));
        DUE.outOfBounds("P21 no person 0", () -> x.aloneAnew(0));
        x.enter(0, 1, false, true, CrushLoad.NONE);
        DUE.outOfBounds("P20 no person 1", () -> x.alone(1));
        DUE.outOfBounds("P21 no person 1", () -> x.aloneAnew(1));
        DUE.outOfBounds("P20 no person -1", () -> x.alone(-1));
        DUE.outOfBounds("P21 no person -1", () -> x.aloneAnew(-1));
        both("no way", x, 0, CrushLoad.NONE);
    }

    private static void leastSum() {
        CrushLoad x = rooms(3);
        x.link(CrushLoad.STAIR, 0, 3, 5, 1);
        x.link(CrushLoad.DOOR, 0, 1, 1, 1);
        x.link(CrushLoad.DOOR, 1, 2, 1, 1);
        x.link(CrushLoad.DOOR, 2, 3, 2, 0);
        x.enter(0, 3, false, true, CrushLoad.NONE);
        both("four small steps", x, 0, 4);
        DUE.is("P16 by the first of them", x.person(0, 3), 1);
        x.close(2, true);
        both("one large one", x, 0, 5);
        DUE.is("P16 by that", x.person(0, 3), 0);
        x.enter(0, 3, true, true, CrushLoad.NONE);
        both("not with a chair", x, 1, CrushLoad.NONE);
    }

    private static void lowestLink() {
        CrushLoad x = rooms(2);
        x.link(CrushLoad.DOOR, 0, 1, 3, 1);
        x.link(CrushLoad.DOOR, 2, 0, 2, 1);
        x.link(CrushLoad.DOOR, 1, 2, 1, 1);
        x.link(CrushLoad.DOOR, 0, 2, 2, 1);
        x.enter(0, 1, false, true, CrushLoad.NONE);
        x.enter(0, 2, false, true, CrushLoad.NONE);
        both("three steps", x, 0, 3);
        DUE.is("P16 the lowest of three", x.person(0, 3), 0);
        x.close(0, true);
        DUE.is("P16 the lowest of two, from its second room", x.person(0, 3), 1);
        both("still three steps", x, 0, 3);
        DUE.is("P16 to the other goal", x.person(1, 3), 1);
        both("two steps", x, 1, 2);
    }

    private static void fromWhereTheyGo() {
        CrushLoad x = rooms(2);
        x.link(CrushLoad.DOOR, 0, 1, 4, 1);
        x.link(CrushLoad.DOOR, 1, 2, 5, 1);
        x.enter(0, 2, false, true, CrushLoad.NONE);
        both("from the street", x, 0, 9);
        x.pass(1);
        both("from the room to which they go", x, 0, 5);
        x.pass(9);
        both("at the goal", x, 0, 0);
    }

    private static void knowledge() {
        CrushLoad x = rooms(1);
        x.link(CrushLoad.DOOR, 0, 1, 1, 1);
        x.link(CrushLoad.DOOR, 0, 1, 5, 1);
        x.enter(0, 1, false, true, CrushLoad.NONE);
        x.enter(0, 1, false, false, CrushLoad.NONE);
        x.close(0, true);
        both("who knows sees it", x, 0, 5);
        both("who does not, does not", x, 1, 1);
        x.announce();
        both("announced", x, 1, 5);
        x.close(0, false);
        both("who knows sees that, too", x, 0, 1);
        both("who does not, does not either", x, 1, 5);
        x.close(1, true);
        x.close(0, true);
        both("no way", x, 0, CrushLoad.NONE);
    }

    private static void longestWay() {
        CrushLoad x = rooms(9);
        for (int link = 8; link >= 0; link--) {
            x.link(CrushLoad.DOOR, link, link + 1, 5, 1);
        }
        x.enter(0, 9, false, true, CrushLoad.NONE);
        both("nine links of five steps", x, 0, 45);
        DUE.is("P16 the last link", x.person(0, 3), 8);
        x.close(4, true);
        both("with a gap", x, 0, CrushLoad.NONE);
    }

    /** Room 0 as the goal, and link 0 at it: who waits there does not go on, nor will. */
    private static void atTheFirstRoom() {
        CrushLoad x = new CrushLoad();
        x.room(CrushLoad.PLATFORM, 9);
        x.room(CrushLoad.STREET, 1);
        x.link(CrushLoad.DOOR, 0, 1, 1, 9);
        for (int kind = 0; kind < 4; kind++) {
            x.enter(1, 0, kind % 2 == 1, kind > 1, CrushLoad.NONE);
        }
        DUE.is("P18 all wait there", x.foretell(0, 9), 4);
        x.pass(5);
        for (int kind = 0; kind < 4; kind++) {
            both("there", x, kind, 0);
            DUE.is("P16 no next link there", x.person(kind, 3), CrushLoad.NONE);
        }
        DUE.is("P15 nobody waits for the link", x.ofLink(0, 3), 0);
        DUE.is("P18 all wait there still", x.foretell(0, 9), 4);
    }

    /** Links beside one another, so that there are many ways, and rings. */
    private static void manyWays() {
        CrushLoad x = rooms(5);
        for (int link = 0; link < 14; link++) {
            int from = link % 5;
            x.link(CrushLoad.STAIR, from, from + 1, 1 + (link * 7 + 3) % 5, 1);
        }
        x.enter(0, 5, false, true, CrushLoad.NONE);
        // The least of each three: links 0 5 10, 1 6 11, 2 7 12, 3 8 13, 4 9 have 4 4 4, 1 1 1, 3 3 3, 5 5 5, 2 2.
        both("the least of each", x, 0, 15);
        x.close(1, true);
        both("as much beside it", x, 0, 15);
        DUE.is("P16 the lowest of the same", x.person(0, 3), 0);
        // The shorter one of two ways may come first or last, and lead through room 0.
        CrushLoad y = new CrushLoad();
        y.room(CrushLoad.HALL, 9);
        y.room(CrushLoad.STREET, 1);
        y.room(CrushLoad.STREET, 1);
        y.link(CrushLoad.DOOR, 1, 2, 5, 1);
        y.link(CrushLoad.DOOR, 0, 1, 1, 1);
        y.link(CrushLoad.DOOR, 2, 0, 3, 1);
        y.link(CrushLoad.DOOR, 1, 0, 2, 1);
        y.enter(1, 2, false, true, CrushLoad.NONE);
        both("through room 0", y, 0, 4);
        DUE.is("P16 through room 0", y.person(0, 3), 1);
        y.close(1, true);
        both("as much by either", y, 0, 5);
        DUE.is("P16 the lower one", y.person(0, 3), 0);
    }
}
