/** Promises 1 to 8: a new object, room, link, close, announce, turn, stop, meter; with 14 and 15 for what they change. */
public final class StationTest {
    private static final Due DUE = new Due("StationTest");

    public static void main(String[] args) {
        promise1();
        promise2();
        promise3();
        promise3Order();
        promise4();
        promise5();
        promise6();
        promise7();
        promise8();
        DUE.end();
    }

    private static CrushLoad twoRooms() {
        CrushLoad x = new CrushLoad();
        x.room(CrushLoad.STREET, 1);
        x.room(CrushLoad.PLATFORM, 30);
        return x;
    }

    private static void promise1() {
        CrushLoad x = new CrushLoad();
        DUE.is("P1 now", x.now(), 0);
        DUE.outOfBounds("P1 no room", () -> x.ofRoom(0, 0));
        DUE.outOfBounds("P1 no link", () -> x.ofLink(0, 0));
        DUE.outOfBounds("P1 no person", () -> x.person(0, 0));
        DUE.outOfBounds("P1 no train", () -> x.ofTrain(0, 0));
        DUE.is("P1 nothing is announced", x.announce(), 0);
        DUE.is("P1 nobody has a goal", x.clear(), 0);
        DUE.is("P1 it is clear", x.clears(), 0);
        DUE.is("P1 seconds pass in an empty station", x.pass(60), 60);
    }

    private static void promise2() {
        CrushLoad x = new CrushLoad();
        DUE.wrongArgument("P2 kind -1", () -> x.room(-1, 5));
        DUE.wrongArgument("P2 kind 3", () -> x.room(3, 5));
        DUE.wrongArgument("P2 limit 0", () -> x.room(CrushLoad.HALL, 0));
        DUE.wrongArgument("P2 limit 61", () -> x.room(CrushLoad.HALL, 61));
        DUE.wrongArgument("P2 a street's limit 0", () -> x.room(CrushLoad.STREET, 0));
        DUE.wrongArgument("P2 a street's limit 61", () -> x.room(CrushLoad.STREET, 61));
        DUE.is("P2 the first", x.room(CrushLoad.STREET, 1), 0);
        DUE.is("P2 the second", x.room(CrushLoad.HALL, 60), 1);
        DUE.is("P2 the third", x.room(CrushLoad.PLATFORM, 1), 2);
        for (int what = 0; what <= 4; what++) {
            DUE.is("P2, P14 a new room " + what, x.ofRoom(2, what), 0);
        }
        for (int room = 3; room < 10; room++) {
            DUE.is("P2 room " + room, x.room(CrushLoad.HALL, 9), room);
        }
        DUE.wrongState("P2 the eleventh", () -> x.room(CrushLoad.HALL, 9));
        DUE.wrongArgument("P2 the eleventh, of no kind", () -> x.room(7, 9));
        DUE.outOfBounds("P14 room 10", () -> x.ofRoom(10, 0));
        DUE.outOfBounds("P14 room -1", () -> x.ofRoom(-1, 0));
        DUE.outOfBounds("P14 room ahead of what", () -> x.ofRoom(10, 9));
        DUE.wrongArgument("P14 what 5", () -> x.ofRoom(0, 5));
        DUE.wrongArgument("P14 what -1", () -> x.ofRoom(0, -1));
    }

    private static void promise3() {
        CrushLoad x = twoRooms();
        DUE.wrongArgument("P3 both the same", () -> x.link(CrushLoad.DOOR, 1, 1, 1, 1));
        DUE.wrongArgument("P3 kind -1", () -> x.link(-1, 0, 1, 1, 1));
        DUE.wrongArgument("P3 kind 5", () -> x.link(5, 0, 1, 1, 1));
        DUE.wrongArgument("P3 steps 0", () -> x.link(CrushLoad.DOOR, 0, 1, 0, 1));
        DUE.wrongArgument("P3 steps 6", () -> x.link(CrushLoad.DOOR, 0, 1, 6, 1));
        DUE.wrongArgument("P3 rate -1", () -> x.link(CrushLoad.DOOR, 0, 1, 1, -1));
        DUE.wrongArgument("P3 rate 10", () -> x.link(CrushLoad.DOOR, 0, 1, 1, 10));
        DUE.is("P3 the first", x.link(CrushLoad.GATE, 1, 0, 5, 0), 0);
        DUE.is("P3 the second", x.link(CrushLoad.DOOR, 0, 1, 1, 9), 1);
        int[] fresh = {0, 0, 0, 0, 9};
        for (int what = 0; what <= 4; what++) {
            DUE.is("P3, P15 a new link " + what, x.ofLink(1, what), fresh[what]);
        }
    }

    private static void promise3Order() {
        CrushLoad x = twoRooms();
        DUE.outOfBounds("P3 no first room", () -> x.link(CrushLoad.DOOR, 2, 1, 1, 1));
        DUE.outOfBounds("P3 no second room", () -> x.link(CrushLoad.DOOR, 0, 2, 1, 1));
        DUE.outOfBounds("P3 first room -1", () -> x.link(CrushLoad.DOOR, -1, 1, 1, 1));
        DUE.outOfBounds("P3 no room, and the same", () -> x.link(9, 2, 2, 0, 10));
        for (int link = 0; link < 14; link++) {
            DUE.is("P3 link " + link, x.link(link % 5, 0, 1, 1, 1), link);
        }
        DUE.wrongState("P3 the fifteenth", () -> x.link(CrushLoad.DOOR, 0, 1, 1, 1));
        DUE.wrongArgument("P3 the fifteenth, of no kind", () -> x.link(5, 0, 1, 1, 1));
        DUE.outOfBounds("P15 link 14", () -> x.ofLink(14, 0));
        DUE.outOfBounds("P15 link -1, ahead of what", () -> x.ofLink(-1, 5));
        DUE.wrongArgument("P15 what 5", () -> x.ofLink(0, 5));
        DUE.wrongArgument("P15 what -1", () -> x.ofLink(0, -1));
    }

    private static void promise4() {
        CrushLoad x = twoRooms();
        x.link(CrushLoad.DOOR, 0, 1, 1, 2);
        x.enter(0, 1, false, true, CrushLoad.NONE);
        DUE.is("P4 it was open", x.close(0, true), false);
        DUE.is("P4 it was closed", x.close(0, true), true);
        DUE.is("P15 it is closed", x.ofLink(0, 0), 1);
        x.pass(1);
        DUE.is("P4 nobody goes", x.ofLink(0, 1), 0);
        DUE.is("P4 it was closed, and opens", x.close(0, false), true);
        DUE.is("P4 it was open, and stays so", x.close(0, false), false);
        DUE.is("P15 it is open", x.ofLink(0, 0), 0);
        x.pass(1);
        DUE.is("P4 one goes", x.ofLink(0, 1), 1);
        DUE.outOfBounds("P4 no link 1", () -> x.close(1, true) ? 1 : 0);
        DUE.outOfBounds("P4 no link -1", () -> x.close(-1, true) ? 1 : 0);
    }

    private static void promise5() {
        CrushLoad x = twoRooms();
        x.link(CrushLoad.DOOR, 0, 1, 1, 2);
        x.link(CrushLoad.DOOR, 0, 1, 2, 2);
        x.link(CrushLoad.DOOR, 0, 1, 3, 2);
        int knows = x.enter(0, 1, false, true, CrushLoad.NONE);
        int not = x.enter(0, 1, false, false, CrushLoad.NONE);
        DUE.is("P5 none is closed", x.announce(), 0);
        x.close(0, true);
        x.close(1, true);
        DUE.is("P5 seen by one who knows", x.person(knows, 3), 2);
        DUE.is("P5 not by the other one", x.person(not, 3), 0);
        DUE.is("P5 two are closed", x.announce(), 2);
        DUE.is("P5 known to all", x.person(not, 3), 2);
        DUE.is("P5 that is no knowledge of the place", x.person(not, 4), 0);
        x.close(0, false);
        DUE.is("P5 opened, and seen", x.person(knows, 3), 0);
        DUE.is("P5 opened, but not announced", x.person(not, 3), 2);
        DUE.is("P5 one is closed", x.announce(), 1);
        DUE.is("P5 opened, and announced", x.person(not, 3), 0);
    }

    private static void promise6() {
        CrushLoad x = twoRooms();
        x.link(CrushLoad.MOVING, 0, 1, 2, 3);
        x.link(CrushLoad.STAIR, 0, 1, 5, 3);
        int up = x.enter(0, 1, false, true, CrushLoad.NONE);
        DUE.is("P6 forth at first", x.person(up, 3), 0);
        DUE.is("P6 turned", x.turn(0), true);
        DUE.is("P6 back then", x.person(up, 3), 1);
        x.train(1, 1, 0, 0, 1);
        DUE.is("P6 who come the other way take it", x.person(1, 3), 0);
        DUE.is("P6 turned again", x.turn(0), false);
        DUE.is("P6 forth again", x.person(up, 3), 0);
        DUE.is("P6 who come the other way do not", x.person(1, 3), 1);
        DUE.wrongArgument("P6 a stair", () -> x.turn(1) ? 1 : 0);
        DUE.outOfBounds("P6 no link 2", () -> x.turn(2) ? 1 : 0);
        DUE.outOfBounds("P6 no link -1", () -> x.turn(-1) ? 1 : 0);
    }

    private static void promise7() {
        CrushLoad x = twoRooms();
        x.link(CrushLoad.MOVING, 0, 1, 2, 5);
        x.link(CrushLoad.LIFT, 0, 1, 5, 3);
        x.train(1, 1, 0, 0, 1);
        DUE.is("P7 it goes forth alone", x.person(0, 3), 1);
        DUE.is("P7 it was not stopped", x.stop(0, true), false);
        DUE.is("P7 as a stair both ways", x.person(0, 3), 0);
        DUE.is("P15 the half of the rate, rounded up", x.ofLink(0, 4), 3);
        DUE.is("P7 turned while it stands", x.turn(0), true);
        DUE.is("P7 both ways still", x.person(0, 3), 0);
        DUE.is("P7 it was stopped", x.stop(0, true), true);
        x.meter(0, 8);
        DUE.is("P15 the half of an even rate", x.ofLink(0, 4), 4);
        x.meter(0, 1);
        DUE.is("P15 the half of one", x.ofLink(0, 4), 1);
        x.meter(0, 0);
        DUE.is("P15 the half of nothing", x.ofLink(0, 4), 0);
        DUE.is("P7 it was stopped, and goes", x.stop(0, false), true);
        DUE.is("P7 it was not stopped, and goes", x.stop(0, false), false);
        DUE.wrongArgument("P7 a lift", () -> x.stop(1, true) ? 1 : 0);
        DUE.outOfBounds("P7 no link 2", () -> x.stop(2, true) ? 1 : 0);
        DUE.outOfBounds("P7 no link -1", () -> x.stop(-1, true) ? 1 : 0);
    }

    private static void promise8() {
        CrushLoad x = twoRooms();
        x.link(CrushLoad.GATE, 0, 1, 2, 5);
        x.link(CrushLoad.MOVING, 0, 1, 2, 7);
        DUE.is("P8 it was 5", x.meter(0, 0), 5);
        DUE.is("P15 it is 0", x.ofLink(0, 4), 0);
        DUE.is("P8 it was 0", x.meter(0, 9), 0);
        DUE.is("P15 it is 9", x.ofLink(0, 4), 9);
        x.stop(1, true);
        DUE.is("P8 the rate that was set, of one that stands", x.meter(1, 6), 7);
        DUE.is("P15 the half of the new one", x.ofLink(1, 4), 3);
        DUE.wrongArgument("P8 rate 10", () -> x.meter(0, 10));
        DUE.wrongArgument("P8 rate -1", () -> x.meter(0, -1));
        DUE.outOfBounds("P8 no link 2", () -> x.meter(2, 10));
        DUE.outOfBounds("P8 no link -1", () -> x.meter(-1, 1));
        DUE.is("P8 what throws changes nothing", x.ofLink(0, 4), 9);
    }
}
