/** The edges that "Terms" names of trains: four in a second, the last place, the last second, three seconds more, who alights. */
public final class EdgesOfTrainsTest {
    private static final Due DUE = new Due("EdgesOfTrainsTest");

    public static void main(String[] args) {
        fourInASecond();
        space();
        stays();
        staysMore();
        fullInTheLastSecond();
        nobodyInTheLastSecond();
        comesInTheLastSecond();
        whoCounts();
        atOtherPlatforms();
        whoCameLater();
        eachPlatformItsOwn();
        alights();
        alightsByNumbers();
        whoAlights();
        afterTheOrder();
        DUE.end();
    }

    /** Street 0, platform 1 for 60, and a door of a step; so many wait on the platform, in second 9. */
    private static CrushLoad waiting(int many) {
        CrushLoad x = new CrushLoad();
        x.room(CrushLoad.STREET, 1);
        x.room(CrushLoad.PLATFORM, 60);
        x.link(CrushLoad.DOOR, 0, 1, 1, 9);
        for (int i = 0; i < many; i++) {
            x.enter(0, 1, false, true, CrushLoad.NONE);
        }
        x.pass(9);
        return x;
    }

    private static void tells(String label, CrushLoad x, int train, int... all) {
        for (int what = 0; what < all.length; what++) {
            DUE.is("P17 " + label + ", " + what, x.ofTrain(train, what), all[what]);
        }
    }

    private static void fourInASecond() {
        for (int many = 0; many <= 9; many++) {
            CrushLoad x = waiting(many);
            x.train(1, 0, 0, 99, 9);
            DUE.is("P17 nobody at once, of " + many, x.ofTrain(0, 0), 0);
            for (int second = 1; second <= 3; second++) {
                x.pass(1);
                int due = Math.min(many, 4 * second);
                DUE.is("P17 at most 4 a second, of " + many + ", second " + second, x.ofTrain(0, 0), due);
                DUE.is("P14 left by train, of " + many + ", second " + second, x.ofRoom(1, 4), due);
                DUE.is("P14 wait still, of " + many + ", second " + second, x.ofRoom(1, 0), many - due);
                for (int person = 0; person < many; person++) {
                    DUE.is("P16 the lower numbers first, of " + many + ", person " + person, x.person(person, 0),
                            person < due ? CrushLoad.GONE : CrushLoad.WAITS);
                }
            }
        }
    }

    private static void space() {
        for (int space = 0; space <= 9; space++) {
            CrushLoad x = waiting(9);
            x.train(1, 0, 0, space, 9);
            for (int second = 1; second <= 9; second++) {
                x.pass(1);
                DUE.is("P17 as far as there is space, " + space + ", second " + second, x.ofTrain(0, 0),
                        Math.min(space, 4 * second));
                DUE.is("P17 it stays so many seconds all the same, " + space, x.ofTrain(0, 3), 9 - second);
            }
            DUE.is("P14 who is left waits, space " + space, x.ofRoom(1, 0), 9 - space);
        }
        CrushLoad x = waiting(60);
        x.train(1, 0, 0, 99, 9);
        x.pass(60);
        tells("the most there can be aboard", x, 0, 48, 0, 0, 0);
        DUE.is("P14 twelve are left", x.ofRoom(1, 0), 12);
    }

    /** Nobody waits: it is there for as many seconds as it stays, and leaves with the last one. */
    private static void stays() {
        for (int stays = 1; stays <= 9; stays++) {
            CrushLoad x = waiting(0);
            x.train(1, 0, 0, 99, stays);
            for (int second = 0; second < stays; second++) {
                tells("stays " + stays + ", second " + second, x, 0, 0, 0, 1, stays - second);
                DUE.wrongState("P10 one is there, stays " + stays, () -> x.train(1, 0, 0, 0, 1));
                x.pass(1);
            }
            tells("left, stays " + stays, x, 0, 0, 0, 0, 0);
            DUE.is("P10 another one, at once, stays " + stays, x.train(1, 0, 0, 0, 1), 1);
        }
    }

    /** As somebody always waits, it stays three seconds more, one after the other. */
    private static void staysMore() {
        for (int stays = 1; stays <= 9; stays++) {
            CrushLoad x = waiting(60);
            x.train(1, 0, 0, 99, stays);
            for (int second = 1; second <= stays + 2; second++) {
                x.pass(1);
                int due = Math.max(1, stays - second);
                tells("pressed, stays " + stays + ", second " + second, x, 0, 4 * second, 0, 1, due);
                DUE.wrongState("P10 one is there, stays " + stays, () -> x.train(1, 0, 0, 0, 1));
            }
            x.pass(1);
            tells("left at last, stays " + stays, x, 0, 4 * (stays + 3), 0, 0, 0);
            x.pass(9);
            tells("left for good, stays " + stays, x, 0, 4 * (stays + 3), 0, 0, 0);
            x.train(1, 0, 0, 99, 1);
            x.pass(3);
            DUE.is("P17 the next one has its own three, stays " + stays, x.ofTrain(1, 2), 60 - 4 * (stays + 3) > 12 ? 1 : 0);
        }
    }

    /** Space for 4 to 17, and 20 who wait: it stays more only as long as it has space. */
    private static void fullInTheLastSecond() {
        for (int space = 4; space <= 17; space++) {
            CrushLoad x = waiting(20);
            x.train(1, 0, 0, space, 1);
            int seconds = 0;
            while (seconds < 9 && x.ofTrain(0, 2) == 1) {
                x.pass(1);
                seconds++;
            }
            DUE.is("P17 the seconds there, space " + space, seconds, Math.min(4, (space + 3) / 4));
            DUE.is("P17 aboard, space " + space, x.ofTrain(0, 0), Math.min(16, space));
        }
    }

    /** Space for all, and 0 to 17 who wait: it stays more only as long as somebody waits. */
    private static void nobodyInTheLastSecond() {
        for (int many = 0; many <= 17; many++) {
            CrushLoad x = waiting(many);
            x.train(1, 0, 0, 99, 1);
            int seconds = 0;
            while (seconds < 9 && x.ofTrain(0, 2) == 1) {
                x.pass(1);
                seconds++;
            }
            DUE.is("P17 the seconds there, of " + many, seconds, many == 0 ? 1 : Math.min(4, (many + 3) / 4));
            DUE.is("P17 aboard, of " + many, x.ofTrain(0, 0), Math.min(16, many));
        }
    }

    private static void comesInTheLastSecond() {
        CrushLoad x = waiting(0);
        x.enter(0, 1, false, true, CrushLoad.NONE);
        x.train(1, 0, 0, 1, 2);
        x.pass(2);
        tells("who comes in its last second goes aboard", x, 0, 1, 0, 0, 0);
        CrushLoad y = waiting(0);
        y.enter(0, 1, false, true, CrushLoad.NONE);
        y.train(1, 0, 0, 1, 1);
        y.pass(1);
        tells("it does not stay more for one on the way", y, 0, 0, 0, 0, 0);
        y.pass(1);
        DUE.is("P16 who comes a second later waits", y.person(0, 0), CrushLoad.WAITS);
        tells("and it is gone", y, 0, 0, 0, 0, 0);
    }

    /** Of those in the room, only those wait for a train who want one, with that platform as their goal. */
    private static void whoCounts() {
        CrushLoad x = waiting(0);
        x.meter(0, 0);
        x.train(1, 20, 0, 99, 1);
        x.pass(1);
        tells("who alighted wants none", x, 0, 0, 20, 0, 0);
        CrushLoad y = new CrushLoad();
        y.room(CrushLoad.STREET, 1);
        y.room(CrushLoad.PLATFORM, 9);
        y.room(CrushLoad.PLATFORM, 9);
        y.room(CrushLoad.STREET, 1);
        y.link(CrushLoad.DOOR, 0, 1, 1, 9);
        y.link(CrushLoad.DOOR, 1, 2, 1, 0);
        y.link(CrushLoad.DOOR, 1, 3, 1, 0);
        y.enter(0, 2, false, true, CrushLoad.NONE);
        y.enter(0, 3, false, true, CrushLoad.NONE);
        y.pass(2);
        y.train(1, 0, 0, 99, 2);
        y.pass(1);
        tells("not those who go through", y, 0, 0, 0, 1, 1);
        y.pass(1);
        tells("nor does it stay more for them", y, 0, 0, 0, 0, 0);
        DUE.is("P14 they wait still", y.ofRoom(1, 0), 2);
    }

    /** Three platforms in a row: at each, one who waits there for a train, and two who are to go on to the other ones. */
    private static void atOtherPlatforms() {
        CrushLoad x = new CrushLoad();
        x.room(CrushLoad.PLATFORM, 9);
        x.room(CrushLoad.PLATFORM, 9);
        x.room(CrushLoad.PLATFORM, 9);
        x.room(CrushLoad.STREET, 1);
        for (int platform = 0; platform < 3; platform++) {
            x.link(CrushLoad.DOOR, 3, platform, 1, 9);
        }
        x.link(CrushLoad.DOOR, 0, 1, 1, 0);
        x.link(CrushLoad.DOOR, 1, 2, 1, 0);
        x.link(CrushLoad.DOOR, 2, 0, 1, 0);
        for (int platform = 0; platform < 3; platform++) {
            for (int open = 0; open < 3; open++) {
                x.close(open, open != platform);
            }
            for (int goal = 0; goal < 3; goal++) {
                x.enter(3, goal, false, true, CrushLoad.NONE);
            }
            x.pass(2);
        }
        for (int platform = 0; platform < 3; platform++) {
            DUE.is("P14 three wait at platform " + platform, x.ofRoom(platform, 0), 3);
            DUE.is("P10 a train at platform " + platform, x.train(platform, 0, 3, 9, 2), platform);
        }
        x.pass(2);
        for (int train = 0; train < 3; train++) {
            tells("one went aboard, and it left, train " + train, x, train, 1, 0, 0, 0);
        }
        for (int person = 0; person < 9; person++) {
            DUE.is("P16 at the goal or not, person " + person, x.person(person, 0),
                    person % 4 == 0 ? CrushLoad.GONE : CrushLoad.WAITS);
        }
    }

    /** Four who came one after the other, and space for fewer: those who came later are left, with whatever numbers. */
    private static void whoCameLater() {
        for (int space = 0; space <= 4; space++) {
            CrushLoad x = waiting(0);
            for (int person = 0; person < 4; person++) {
                x.enter(0, 1, false, true, CrushLoad.NONE);
                x.pass(1);
            }
            x.pass(1);
            x.train(1, 0, 0, space, 1);
            x.pass(1);
            for (int person = 0; person < 4; person++) {
                DUE.is("P16 space " + space + ", person " + person, x.person(person, 0),
                        person < space ? CrushLoad.GONE : CrushLoad.WAITS);
            }
        }
    }

    private static void eachPlatformItsOwn() {
        CrushLoad x = new CrushLoad();
        x.room(CrushLoad.STREET, 1);
        for (int platform = 1; platform < 10; platform++) {
            x.room(CrushLoad.PLATFORM, 9);
        }
        for (int platform = 1; platform < 10; platform++) {
            DUE.is("P10 a train at each platform", x.train(platform, platform, 0, 9, platform), platform - 1);
        }
        for (int second = 1; second <= 9; second++) {
            x.pass(1);
            for (int train = 0; train < 9; train++) {
                int due = Math.max(0, train + 1 - second);
                tells("train " + train + ", second " + second, x, train, 0, train + 1, due > 0 ? 1 : 0, due);
            }
        }
        DUE.is("P10 the tenth", x.train(1, 0, 0, 0, 1), 9);
        DUE.is("P10 the eleventh", x.train(2, 0, 0, 0, 1), 10);
        DUE.is("P10 the twelfth", x.train(9, 0, 0, 0, 1), 11);
        DUE.wrongState("P10 no thirteenth", () -> x.train(3, 0, 0, 0, 1));
    }

    /** Of a room with 0 to 20 places left, in which some wait. */
    private static void alights() {
        for (int places = 0; places <= 22; places++) {
            for (int alight = 0; alight <= 20; alight += 5) {
                CrushLoad x = waiting(60 - places);
                DUE.is("P10 a train, places " + places, x.train(1, alight, 0, 0, 1), 0);
                int due = Math.min(places, alight);
                String label = " of " + alight + ", places " + places;
                DUE.is("P17 alighted" + label, x.ofTrain(0, 1), due);
                DUE.is("P14 wait" + label, x.ofRoom(1, 0), 60 - places + due);
                DUE.is("P14 came" + label, x.ofRoom(1, 3), 60 - places + due);
                int number = 60 - places + due;
                DUE.outOfBounds("P16 no more numbers" + label, () -> x.person(number, 0));
            }
        }
    }

    /** With 97 to 120 persons, of whom nobody is in the way. */
    private static void alightsByNumbers() {
        for (int persons = 97; persons <= 120; persons++) {
            CrushLoad x = waiting(0);
            for (int person = 0; person < persons; person++) {
                x.enter(0, 0, false, true, CrushLoad.NONE);
            }
            DUE.is("P10 a train comes all the same, " + persons, x.train(1, 20, 0, 0, 1), 0);
            int due = Math.min(20, 120 - persons);
            DUE.is("P17 as far as the numbers allow, " + persons, x.ofTrain(0, 1), due);
            DUE.is("P14 wait, " + persons, x.ofRoom(1, 0), due);
            boolean last = persons + due == 120;
            DUE.same("P9 whether there is one more number, " + persons,
                    Due.outcome(() -> x.enter(0, 0, false, true, CrushLoad.NONE)),
                    last ? "throws.IllegalStateException" : Integer.toString(persons + due));
        }
    }

    private static void whoAlights() {
        CrushLoad x = new CrushLoad();
        x.room(CrushLoad.STREET, 1);
        x.room(CrushLoad.PLATFORM, 9);
        x.room(CrushLoad.STREET, 1);
        x.link(CrushLoad.STAIR, 0, 1, 1, 9);
        x.link(CrushLoad.DOOR, 1, 2, 5, 9);
        x.pass(5);
        x.train(1, 2, 2, 9, 9);
        int[] due = {CrushLoad.WAITS, 1, 2, 1, 0, 0, 5};
        for (int person = 0; person < 2; person++) {
            for (int what = 0; what < due.length; what++) {
                DUE.is("P10 who alights, person " + person + ", " + what, x.person(person, what), due[what]);
            }
        }
        x.pass(9);
        x.train(1, 2, 0, 9, 9);
        DUE.is("P10 no chair: by the stair", x.person(2, 3), 0);
        // One of each group is far away: whoever were in a group with them could not begin.
        for (int group = 0; group <= 9; group++) {
            x.enter(2, 1, false, true, group);
        }
        x.close(1, true);
        x.pass(1);
        DUE.is("P10 no group: they begin", x.ofLink(0, 2), 2);
        DUE.is("P10 they do not know the place", x.person(2, 4), 0);
    }

    private static void afterTheOrder() {
        CrushLoad x = waiting(5);
        x.clear();
        x.meter(0, 0);
        x.train(1, 3, 0, 99, 1);
        x.pass(1);
        tells("after the order nobody goes aboard", x, 0, 0, 3, 0, 0);
        for (int person = 0; person < 8; person++) {
            DUE.is("P16 wants no train, person " + person, x.person(person, 5), 0);
            DUE.is("P16 has the street as the goal, person " + person, x.person(person, 2), 0);
        }
    }
}
