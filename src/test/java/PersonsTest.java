/** Promises 9 and 16: enter, person; with 14 for what it changes. */
public final class PersonsTest {
    private static final Due DUE = new Due("PersonsTest");

    public static void main(String[] args) {
        wrong();
        full();
        outAtOnce();
        waits();
        ways();
        gone();
        chairs();
        DUE.end();
    }

    /** Streets 0 and 3, hall 1, platform 2. */
    private static CrushLoad rooms() {
        CrushLoad x = new CrushLoad();
        x.room(CrushLoad.STREET, 1);
        x.room(CrushLoad.HALL, 20);
        x.room(CrushLoad.PLATFORM, 20);
        x.room(CrushLoad.STREET, 1);
        return x;
    }

    private static void tells(String label, CrushLoad x, int person, int... all) {
        for (int what = 0; what < all.length; what++) {
            DUE.is("P16 " + label + ", " + what, x.person(person, what), all[what]);
        }
    }

    private static void wrong() {
        CrushLoad x = rooms();
        DUE.outOfBounds("P9 no street", () -> x.enter(4, 2, false, false, 0));
        DUE.outOfBounds("P9 street -1", () -> x.enter(-1, 2, false, false, 0));
        DUE.outOfBounds("P9 no goal, of a hall", () -> x.enter(1, 4, false, false, 10));
        DUE.outOfBounds("P9 goal -1", () -> x.enter(0, -1, false, false, 0));
        DUE.wrongArgument("P9 to a hall", () -> x.enter(1, 2, false, false, 0));
        DUE.wrongArgument("P9 to a platform", () -> x.enter(2, 2, false, false, 0));
        DUE.wrongArgument("P9 with a hall as the goal", () -> x.enter(0, 1, false, false, 0));
        DUE.wrongArgument("P9 group 10", () -> x.enter(0, 2, false, false, 10));
        DUE.wrongArgument("P9 group -2", () -> x.enter(0, 2, false, false, -2));
        DUE.is("P9 what throws changes nothing", x.ofRoom(0, 3), 0);
        DUE.is("P9 the first", x.enter(0, 2, false, false, 9), 0);
        DUE.is("P9 the second", x.enter(3, 0, false, false, 0), 1);
        DUE.outOfBounds("P16 no person 2", () -> x.person(2, 0));
        DUE.outOfBounds("P16 no person -1, ahead of what", () -> x.person(-1, 7));
        DUE.wrongArgument("P16 what 7", () -> x.person(0, 7));
        DUE.wrongArgument("P16 what -1", () -> x.person(0, -1));
    }

    private static void full() {
        CrushLoad x = rooms();
        for (int person = 0; person < 120; person++) {
            DUE.is("P9 person " + person, x.enter(0, 2, false, false, CrushLoad.NONE), person);
        }
        DUE.wrongState("P9 one too many", () -> x.enter(0, 2, false, false, CrushLoad.NONE));
        DUE.wrongArgument("P9 one too many, to a hall", () -> x.enter(1, 2, false, false, CrushLoad.NONE));
        DUE.is("P14 a street has no limit", x.ofRoom(0, 0), 120);
        DUE.is("P10 nobody alights with a number too many", x.train(2, 5, 0, 9, 2), 0);
        DUE.is("P17 nobody alighted", x.ofTrain(0, 1), 0);
    }

    private static void outAtOnce() {
        CrushLoad x = rooms();
        x.pass(7);
        int out = x.enter(0, 0, true, true, 4);
        tells("out at once", x, out, CrushLoad.OUT, 0, 0, CrushLoad.NONE, 1, 0, 7);
        DUE.is("P14 nobody waits", x.ofRoom(0, 0), 0);
        DUE.is("P14 one came", x.ofRoom(0, 3), 1);
        DUE.is("P14 one left", x.ofRoom(0, 4), 1);
        DUE.is("P20 at the goal", x.alone(out), 0);
        DUE.is("P21 at the goal", x.aloneAnew(out), 0);
    }

    private static void waits() {
        CrushLoad x = rooms();
        x.pass(3);
        int one = x.enter(0, 2, false, false, CrushLoad.NONE);
        int other = x.enter(0, 3, true, true, CrushLoad.NONE);
        tells("waits for a train", x, one, CrushLoad.WAITS, 0, 2, CrushLoad.NONE, 0, 1, 3);
        tells("waits to go to a street", x, other, CrushLoad.WAITS, 0, 3, CrushLoad.NONE, 1, 0, 3);
        DUE.is("P14 both wait", x.ofRoom(0, 0), 2);
        DUE.is("P14 both came", x.ofRoom(0, 3), 2);
        DUE.is("P14 nobody left", x.ofRoom(0, 4), 0);
    }

    private static void ways() {
        CrushLoad x = rooms();
        x.link(CrushLoad.DOOR, 0, 1, 3, 9);
        x.link(CrushLoad.DOOR, 3, 1, 2, 9);
        int one = x.enter(0, 3, false, true, CrushLoad.NONE);
        x.pass(1);
        tells("on the way", x, one, CrushLoad.ON_WAY, 1, 3, CrushLoad.NONE, 1, 0, 4);
        DUE.is("P14 on the way to the hall", x.ofRoom(1, 1), 1);
        DUE.is("P14 nobody waits in the hall", x.ofRoom(1, 0), 0);
        DUE.is("P14 nobody came to the hall", x.ofRoom(1, 3), 0);
        DUE.is("P14 one left the street", x.ofRoom(0, 4), 1);
        x.pass(2);
        DUE.is("P16 still on the way", x.person(one, 0), CrushLoad.ON_WAY);
        // In second 4 they come, and begin on the next link: the other way round.
        x.pass(1);
        tells("on the way again", x, one, CrushLoad.ON_WAY, 3, 3, CrushLoad.NONE, 1, 0, 6);
        DUE.is("P14 one came to the hall", x.ofRoom(1, 3), 1);
        DUE.is("P14 one left the hall", x.ofRoom(1, 4), 1);
        DUE.is("P15 begun forth", x.ofLink(0, 1), 1);
        DUE.is("P15 not back", x.ofLink(0, 2), 0);
        DUE.is("P15 not forth", x.ofLink(1, 1), 0);
        DUE.is("P15 begun back", x.ofLink(1, 2), 1);
        x.pass(2);
        tells("out", x, one, CrushLoad.OUT, 3, 3, CrushLoad.NONE, 1, 0, 6);
        DUE.is("P14 came to the street", x.ofRoom(3, 3), 1);
        DUE.is("P14 left it as out", x.ofRoom(3, 4), 1);
    }

    private static void gone() {
        CrushLoad x = rooms();
        x.link(CrushLoad.STAIR, 0, 2, 1, 9);
        int one = x.enter(0, 2, false, true, CrushLoad.NONE);
        x.pass(2);
        tells("waits at the platform", x, one, CrushLoad.WAITS, 2, 2, CrushLoad.NONE, 1, 1, 2);
        x.train(2, 0, 0, 1, 2);
        x.pass(1);
        tells("gone", x, one, CrushLoad.GONE, 2, 2, CrushLoad.NONE, 1, 1, 2);
        DUE.is("P14 left by train", x.ofRoom(2, 4), 1);
        DUE.is("P20 of one who is gone", x.alone(one), 0);
        x.clear();
        DUE.is("P11 nobody wants a train then", x.person(one, 5), 0);
        DUE.is("P11 who is gone keeps the goal", x.person(one, 2), 2);
    }

    private static void chairs() {
        CrushLoad x = rooms();
        x.link(CrushLoad.STAIR, 0, 2, 1, 9);
        x.link(CrushLoad.MOVING, 0, 2, 2, 9);
        x.stop(1, true);
        int one = x.enter(0, 2, true, true, CrushLoad.NONE);
        DUE.is("P16 no stairs", x.person(one, 3), CrushLoad.NONE);
        x.link(CrushLoad.GATE, 0, 2, 5, 9);
        DUE.is("P16 by a gate", x.person(one, 3), 2);
        x.link(CrushLoad.LIFT, 0, 2, 4, 9);
        DUE.is("P16 by a lift", x.person(one, 3), 3);
        x.link(CrushLoad.DOOR, 0, 2, 3, 9);
        DUE.is("P16 by a door", x.person(one, 3), 4);
        x.link(CrushLoad.DOOR, 0, 2, 3, 9);
        DUE.is("P16 by the lowest", x.person(one, 3), 4);
        int other = x.enter(0, 2, false, false, CrushLoad.NONE);
        DUE.is("P16 without a chair by the stair", x.person(other, 3), 0);
    }
}
