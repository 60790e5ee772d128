/** Promises 11, 18 and 19: clear, foretell, clears. */
public final class ClearTest {
    private static final Due DUE = new Due("ClearTest");

    public static void main(String[] args) {
        goals();
        gates();
        closings();
        noTrains();
        foretells();
        foretellsWrong();
        clears();
        clearsWithin100();
        foretellsAsItComes();
        foretellsByWhatIsNow();
        nothingChanges();
        DUE.end();
    }

    /** Street 0, hall 1, platform 2, street 3, in a row; doors of 2, 1 and 1 steps. */
    private static CrushLoad row() {
        CrushLoad x = new CrushLoad();
        x.room(CrushLoad.STREET, 1);
        x.room(CrushLoad.HALL, 20);
        x.room(CrushLoad.PLATFORM, 20);
        x.room(CrushLoad.STREET, 1);
        x.link(CrushLoad.DOOR, 0, 1, 2, 9);
        x.link(CrushLoad.DOOR, 1, 2, 1, 9);
        x.link(CrushLoad.DOOR, 2, 3, 1, 9);
        return x;
    }

    private static void goals() {
        CrushLoad x = row();
        int toTrain = x.enter(0, 2, false, true, CrushLoad.NONE);
        int through = x.enter(0, 3, false, true, CrushLoad.NONE);
        x.pass(1);
        int late = x.enter(0, 2, false, true, CrushLoad.NONE);
        int there = x.enter(0, 0, false, true, CrushLoad.NONE);
        // The two go to the hall, with 2 steps to each of the streets: the lowest.
        DUE.is("P11 three have another goal", x.clear(), 3);
        DUE.is("P11 on the way to the hall", x.person(toTrain, 2), 0);
        DUE.is("P11 with another street", x.person(through, 2), 0);
        DUE.is("P11 still on the way", x.person(toTrain, 0), CrushLoad.ON_WAY);
        DUE.is("P11 in a street they are out", x.person(late, 0), CrushLoad.OUT);
        DUE.is("P11 with that goal", x.person(late, 2), 0);
        DUE.is("P11 was out", x.person(there, 0), CrushLoad.OUT);
        DUE.is("P14 both left as out, two by the link", x.ofRoom(0, 4), 4);
        DUE.is("P11 again", x.clear(), 0);
        x.pass(2);
        DUE.is("P11 they turn back", x.ofLink(0, 2), 2);
        x.pass(2);
        DUE.is("P11 out", x.person(toTrain, 0), CrushLoad.OUT);
        x.train(2, 1, 0, 0, 1);
        DUE.is("P11 the nearest one", x.clear(), 1);
        DUE.is("P11 is the other street", x.person(4, 2), 3);
        x.pass(2);
        DUE.is("P11 out there", x.person(4, 0), CrushLoad.OUT);
    }

    private static void gates() {
        CrushLoad x = new CrushLoad();
        x.room(CrushLoad.STREET, 1);
        x.room(CrushLoad.PLATFORM, 20);
        x.link(CrushLoad.GATE, 0, 1, 2, 1);
        x.train(1, 2, 0, 0, 1);
        int one = x.enter(0, 1, true, true, CrushLoad.NONE);
        x.pass(3);
        DUE.is("P16 a gate goes one way", x.person(0, 3), CrushLoad.NONE);
        DUE.is("P20 none back", x.alone(0), CrushLoad.NONE);
        DUE.is("P21 none back", x.aloneAnew(0), CrushLoad.NONE);
        DUE.is("P19 they would go back", x.clears(), 5);
        DUE.is("P11 one has another goal", x.clear(), 1);
        DUE.is("P16 the gate goes back", x.person(0, 3), 0);
        DUE.is("P20 back", x.alone(0), 2);
        DUE.is("P21 back", x.aloneAnew(0), 2);
        x.pass(1);
        DUE.is("P15 one began", x.ofLink(0, 2), 1);
        x.pass(4);
        DUE.is("P11 all are out", x.person(one, 0), CrushLoad.OUT);
    }

    private static void closings() {
        CrushLoad x = row();
        x.train(2, 1, 0, 0, 1);
        x.enter(0, 2, false, true, CrushLoad.NONE);
        x.close(2, true);
        x.pass(3);
        x.close(0, true);
        x.close(1, true);
        // The one does not know of the closings, the other one can reach no street.
        int knows = 1;
        x.train(2, 1, 0, 0, 1);
        int not = 2;
        DUE.is("P11 who knows of no way", x.clear(), 1);
        DUE.is("P11 keeps the goal", x.person(knows, 2), 2);
        DUE.is("P11 the other one goes by what is announced", x.person(not, 2), 3);
        DUE.is("P11 wants no train, who keeps the goal", x.person(knows, 5), 0);
    }

    private static void noTrains() {
        CrushLoad x = row();
        x.enter(0, 2, false, true, CrushLoad.NONE);
        x.pass(4);
        x.train(2, 0, 0, 9, 2);
        x.clear();
        x.pass(1);
        DUE.is("P11 nobody goes aboard", x.ofTrain(0, 0), 0);
        int late = x.enter(0, 2, false, true, CrushLoad.NONE);
        DUE.is("P11 nor do those who come later want one", x.person(late, 5), 0);
        DUE.is("P11 they keep a platform as their goal", x.person(late, 2), 2);
        x.pass(4);
        DUE.is("P16 they wait there", x.person(late, 0), CrushLoad.WAITS);
        x.train(2, 0, 0, 9, 2);
        x.pass(2);
        DUE.is("P17 for no train", x.ofTrain(1, 0), 0);
        DUE.is("P17 which leaves in time", x.ofTrain(1, 2), 0);
        DUE.is("P11 ordered again", x.clear(), 1);
    }

    private static void foretells() {
        CrushLoad x = row();
        for (int i = 0; i < 6; i++) {
            x.enter(0, 2, false, true, CrushLoad.NONE);
        }
        x.meter(1, 4);
        int[] platform = {0, 0, 0, 4, 6, 6};
        int[] hall = {0, 0, 2, 0, 0, 0};
        for (int seconds = 1; seconds <= 6; seconds++) {
            DUE.is("P18 the platform in " + seconds, x.foretell(2, seconds), platform[seconds - 1]);
            DUE.is("P18 the hall in " + seconds, x.foretell(1, seconds), hall[seconds - 1]);
        }
        x.pass(4);
        x.train(2, 0, 0, 5, 1);
        DUE.is("P18 with a train", x.foretell(2, 1), 2);
        DUE.is("P18 that stays longer", x.foretell(2, 60), 1);
        x.pass(2);
        DUE.is("P14 so it is", x.ofRoom(2, 0), 1);
    }

    private static void foretellsWrong() {
        CrushLoad x = row();
        DUE.outOfBounds("P18 no room 4", () -> x.foretell(4, 1));
        DUE.outOfBounds("P18 no room -1, ahead of seconds", () -> x.foretell(-1, 0));
        DUE.wrongArgument("P18 no second", () -> x.foretell(0, 0));
        DUE.wrongArgument("P18 61 seconds", () -> x.foretell(0, 61));
    }

    private static void clears() {
        CrushLoad x = row();
        DUE.is("P19 nobody", x.clears(), 0);
        x.enter(0, 2, false, true, CrushLoad.NONE);
        DUE.is("P19 in a street they are out at once", x.clears(), 0);
        x.pass(1);
        // Two seconds to the hall, where the way back begins in the same second, and two back.
        DUE.is("P19 on the way", x.clears(), 4);
        x.pass(3);
        DUE.is("P19 on the platform", x.clears(), 2);
        x.close(2, true);
        DUE.is("P19 the other way", x.clears(), 4);
        x.close(1, true);
        DUE.is("P19 no way", x.clears(), CrushLoad.NONE);
    }

    /** One a second, of 5 steps, from two rooms: the last one of so many begins in second so many. */
    private static void clearsWithin100() {
        CrushLoad x = new CrushLoad();
        x.room(CrushLoad.STREET, 1);
        x.room(CrushLoad.PLATFORM, 60);
        x.room(CrushLoad.PLATFORM, 60);
        x.link(CrushLoad.STAIR, 1, 0, 5, 1);
        x.link(CrushLoad.STAIR, 2, 1, 1, 9);
        int[] alight = {20, 20, 17};
        for (int i = 0; i < 3; i++) {
            x.train(1, alight[i], 0, 0, 1);
            x.meter(0, 0);
            x.pass(1);
        }
        x.meter(0, 1);
        DUE.is("P19 57 begin in as many seconds", x.clears(), 62);
        x.meter(1, 0);
        for (int i = 0; i < 3; i++) {
            x.train(2, i < 2 ? 20 : 0, 0, 0, 1);
            x.meter(0, 0);
            x.pass(1);
        }
        x.meter(0, 1);
        x.meter(1, 9);
        DUE.is("P19 97 are too many", x.clears(), CrushLoad.NONE);
        x.pass(1);
        DUE.is("P19 96, with 101 seconds, are too many", x.clears(), CrushLoad.NONE);
        x.pass(1);
        DUE.is("P19 95 are not", x.clears(), 100);
    }

    /** With all that a station can have, what is foretold is what comes, in all rooms and for all seconds. */
    private static void foretellsAsItComes() {
        for (int moment = 0; moment < 12; moment++) {
            for (int room = 0; room < 5; room++) {
                CrushLoad x = busy(moment);
                // Something else that was foretold before does not matter.
                x.clears();
                for (int seconds = 1; seconds <= 20; seconds++) {
                    CrushLoad y = busy(moment);
                    y.pass(seconds);
                    DUE.is("P18 room " + room + " in " + seconds + " at " + moment,
                            x.foretell(room, seconds), y.ofRoom(room, 0));
                }
                CrushLoad z = busy(moment);
                int due = x.clears();
                z.clear();
                for (int passed = 0; passed < due; passed++) {
                    DUE.is("P19 not yet in " + passed + " at " + moment, inside(z) > 0, true);
                    z.pass(1);
                }
                DUE.is("P19 but in " + due + " at " + moment, due >= 0 && inside(z) == 0, true);
            }
        }
    }

    private static int inside(CrushLoad x) {
        int inside = 0;
        for (int room = 0; room < 5; room++) {
            inside += x.ofRoom(room, 0) + x.ofRoom(room, 1);
        }
        return inside;
    }

    /** Platforms 0 and 1, hall 2, streets 3 and 4; the later the moment, the more happened in it. */
    private static CrushLoad busy(int moment) {
        CrushLoad x = new CrushLoad();
        x.room(CrushLoad.PLATFORM, 9);
        x.room(CrushLoad.PLATFORM, 12);
        x.room(CrushLoad.HALL, 10);
        x.room(CrushLoad.STREET, 1);
        x.room(CrushLoad.STREET, 1);
        x.link(CrushLoad.GATE, 3, 2, 1, 3);
        x.link(CrushLoad.MOVING, 2, 0, 2, 5);
        x.link(CrushLoad.STAIR, 2, 0, 3, 2);
        x.link(CrushLoad.LIFT, 2, 1, 2, 1);
        x.link(CrushLoad.STAIR, 1, 0, 1, 2);
        x.link(CrushLoad.DOOR, 2, 4, 4, 2);
        x.link(CrushLoad.DOOR, 0, 2, 5, 1);
        for (int i = 0; i < 9; i++) {
            x.enter(3, i % 2, i % 4 == 1, i % 3 == 0, i % 5 == 0 ? 2 : CrushLoad.NONE);
        }
        for (int now = 0; now < moment; now++) {
            happen(x, now);
            x.pass(1);
        }
        return x;
    }

    private static void happen(CrushLoad x, int now) {
        switch (now) {
            case 1: x.close(2, true); break;
            case 2: x.train(0, 4, 4, 3, 1); break;
            case 3: x.turn(1); break;
            case 4: x.announce(); break;
            case 5: x.stop(1, true); break;
            case 6: x.train(1, 6, 3, 9, 1); break;
            case 7: x.close(2, false); break;
            case 8: x.clear(); break;
            case 9: x.stop(1, false); break;
            case 10: x.meter(0, 1); break;
            default: x.enter(4, 0, false, false, now % 3);
        }
    }

    private static void foretellsByWhatIsNow() {
        CrushLoad gate = new CrushLoad();
        gate.room(CrushLoad.STREET, 1);
        gate.room(CrushLoad.PLATFORM, 20);
        gate.link(CrushLoad.GATE, 0, 1, 2, 9);
        gate.train(1, 3, 0, 0, 1);
        DUE.is("P18 not by the gate", gate.foretell(1, 5), 3);
        gate.clear();
        DUE.is("P18 back by the gate", gate.foretell(1, 5), 0);
        CrushLoad stair = new CrushLoad();
        stair.room(CrushLoad.STREET, 1);
        stair.room(CrushLoad.PLATFORM, 20);
        stair.link(CrushLoad.MOVING, 0, 1, 2, 3);
        stair.link(CrushLoad.DOOR, 0, 1, 1, 0);
        stair.train(1, 6, 0, 0, 1);
        DUE.is("P18 not by the stair", stair.foretell(1, 1), 6);
        stair.meter(1, 9);
        DUE.is("P18 by the door", stair.foretell(1, 1), 0);
        stair.close(1, true);
        stair.announce();
        stair.close(1, false);
        DUE.is("P19 no way that is known", stair.clears(), CrushLoad.NONE);
        stair.stop(0, true);
        DUE.is("P18 by the stair that stands, with the half of its rate", stair.foretell(1, 1), 4);
        DUE.is("P19 by that alone", stair.clears(), 5);
        CrushLoad train = new CrushLoad();
        train.room(CrushLoad.STREET, 1);
        train.room(CrushLoad.PLATFORM, 40);
        train.link(CrushLoad.DOOR, 0, 1, 1, 9);
        for (int i = 0; i < 30; i++) {
            train.enter(0, 1, false, true, CrushLoad.NONE);
        }
        train.pass(5);
        train.train(1, 0, 0, 99, 1);
        for (int second = 0; second < 4; second++) {
            DUE.is("P18 with a train that stays longer, second " + second, train.foretell(1, 20), 14);
            DUE.is("P18 again, second " + second, train.foretell(1, 4 - second), 14);
            train.pass(1);
        }
    }

    private static void nothingChanges() {
        CrushLoad x = row();
        x.enter(0, 2, false, false, CrushLoad.NONE);
        x.close(0, true);
        x.train(2, 3, 0, 9, 5);
        x.foretell(0, 60);
        x.clears();
        x.alone(0);
        x.aloneAnew(0);
        DUE.is("P13 no second", x.now(), 0);
        DUE.is("P16 learnt nothing", x.person(0, 4), 0);
        DUE.is("P16 wants a train", x.person(0, 5), 1);
        DUE.is("P16 has that goal", x.person(0, 2), 2);
        DUE.is("P17 the train stays", x.ofTrain(0, 3), 5);
        DUE.is("P14 nobody came", x.ofRoom(3, 3), 0);
        DUE.is("P15 nobody began", x.ofLink(2, 1), 0);
    }
}
