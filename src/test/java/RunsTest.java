/**
 * Long runs of calls of all kinds, ordinary and wrong ones, on a CrushLoad and on a PlainStation; each answer of the
 * one has to be that of the other. The runs are drawn by a fixed rule of numbers, so that they are always the same.
 */
public final class RunsTest {
    private static final int RUNS = 120;
    private static final int CALLS = 512;

    private final Due due;
    private final CrushLoad it = new CrushLoad();
    private final PlainStation plain = new PlainStation();
    private final int run;
    private long seed;
    private int calls;
    private int mostRooms;
    private int mostLinks;
    private int crowd;

    private RunsTest(Due due, int run) {
        this.due = due;
        this.run = run;
        this.seed = 977L * run + 13;
    }

    public static void main(String[] args) {
        Due due = new Due("RunsTest");
        for (int run = 0; run < RUNS; run++) {
            new RunsTest(due, run).play();
        }
        due.end();
    }

    private int draw(int below) {
        seed = seed * 6364136223846793005L + 1442695040888963407L;
        return (int) Long.remainderUnsigned(seed >>> 33, Math.max(1, below));
    }

    /** Mostly from least to most, now and then just outside, or far. */
    private int about(int least, int most) {
        int chance = draw(60);
        if (chance == 0) {
            return least - 1;
        }
        if (chance == 1) {
            return most + 1;
        }
        if (chance == 2) {
            return draw(2) == 0 ? Integer.MIN_VALUE : Integer.MAX_VALUE;
        }
        return least + draw(most - least + 1);
    }

    private void both(String label, Due.Call own, Due.Call plainly) {
        calls++;
        due.same("run " + run + ", call " + calls + ": " + label, Due.outcome(own), Due.outcome(plainly));
    }

    private void play() {
        mostRooms = 2 + draw(10);
        mostLinks = 1 + draw(15);
        crowd = 1 + draw(4);
        build();
        while (calls < CALLS - 40) {
            act();
            ask();
        }
        // What stands at the end, as far as calls are left.
        for (int person = 0; calls < CALLS; person++) {
            askPerson(person);
        }
    }

    private void build() {
        addRoom(CrushLoad.STREET);
        addRoom(CrushLoad.PLATFORM);
        for (int i = 2; i < mostRooms; i++) {
            addRoom(about(0, 2));
        }
        for (int i = 0; i < mostLinks; i++) {
            addLink();
        }
    }

    private void addRoom(int kind) {
        int limit = draw(3) == 0 ? about(1, 60) : about(1, 12);
        both("room(" + kind + ", " + limit + ")", () -> it.room(kind, limit), () -> plain.room(kind, limit));
    }

    private void addLink() {
        int kind = about(0, 4);
        int from = about(0, plain.rooms() - 1);
        int to = about(0, plain.rooms() - 1);
        int steps = draw(2) == 0 ? about(1, 5) : about(1, 2);
        int rate = draw(2) == 0 ? about(0, 9) : about(1, 4);
        both("link(" + kind + ", " + from + ", " + to + ", " + steps + ", " + rate + ")",
                () -> it.link(kind, from, to, steps, rate), () -> plain.link(kind, from, to, steps, rate));
    }

    private void act() {
        int chance = draw(100);
        if (chance < 34) {
            enterSome();
        } else if (chance < 60) {
            int seconds = draw(4) == 0 ? about(1, 60) : about(1, 3);
            both("pass(" + seconds + ")", () -> it.pass(seconds), () -> plain.pass(seconds));
        } else if (chance < 68) {
            comeTrain();
        } else if (chance < 92) {
            changeLink();
        } else if (chance < 93) {
            addRoom(about(0, 2));
        } else if (chance < 94) {
            addLink();
        } else if (chance < 97) {
            both("announce()", it::announce, plain::announce);
        } else if (chance == 97 && draw(4) == 0) {
            both("clear()", it::clear, plain::clear);
        }
    }

    private void enterSome() {
        int many = 1 + draw(3 * crowd);
        int group = draw(3) == 0 ? about(-1, 9) : -1;
        int street = aRoom(CrushLoad.STREET);
        int goal = aRoom(draw(4) == 0 ? CrushLoad.STREET : CrushLoad.PLATFORM);
        for (int i = 0; i < many; i++) {
            boolean chair = draw(5) == 0;
            boolean knows = draw(2) == 0;
            both("enter(" + street + ", " + goal + ", " + chair + ", " + knows + ", " + group + ")",
                    () -> it.enter(street, goal, chair, knows, group),
                    () -> plain.enter(street, goal, chair, knows, group));
        }
    }

    private void comeTrain() {
        int platform = aRoom(CrushLoad.PLATFORM);
        int street = aRoom(CrushLoad.STREET);
        int alight = draw(2) == 0 ? about(0, 20) : about(0, 3);
        int space = draw(2) == 0 ? about(0, 99) : about(0, 9);
        int stays = about(1, 9);
        both("train(" + platform + ", " + alight + ", " + street + ", " + space + ", " + stays + ")",
                () -> it.train(platform, alight, street, space, stays),
                () -> plain.train(platform, alight, street, space, stays));
    }

    /** Mostly one of that kind. */
    private int aRoom(int kind) {
        int room = about(0, plain.rooms() - 1);
        for (int i = 0; i < 6 && draw(20) > 0 && (!isRoom(room) || !isOfKind(room, kind)); i++) {
            room = draw(plain.rooms());
        }
        return room;
    }

    private boolean isRoom(int room) {
        return room >= 0 && room < plain.rooms();
    }

    private boolean isOfKind(int room, int kind) {
        return plain.kindOf(room) == kind;
    }

    private void changeLink() {
        int link = about(0, plain.links() - 1);
        int chance = draw(4);
        boolean is = draw(3) == 0;
        if (chance == 0) {
            both("close(" + link + ", " + is + ")", () -> it.close(link, is) ? 1 : 0, () -> plain.close(link, is));
        } else if (chance == 1) {
            both("stop(" + link + ", " + is + ")", () -> it.stop(link, is) ? 1 : 0, () -> plain.stop(link, is));
        } else if (chance == 2) {
            both("turn(" + link + ")", () -> it.turn(link) ? 1 : 0, () -> plain.turn(link));
        } else {
            int rate = about(0, 9);
            both("meter(" + link + ", " + rate + ")", () -> it.meter(link, rate), () -> plain.meter(link, rate));
        }
    }

    private void ask() {
        int chance = draw(20);
        int what = about(0, 4);
        int seconds = draw(2) == 0 ? about(1, 60) : about(1, 8);
        int room = about(0, plain.rooms() - 1);
        int link = about(0, plain.links() - 1);
        int train = about(0, plain.trains() - 1);
        if (chance < 5) {
            both("ofRoom(" + room + ", " + what + ")", () -> it.ofRoom(room, what), () -> plain.ofRoom(room, what));
        } else if (chance < 9) {
            both("ofLink(" + link + ", " + what + ")", () -> it.ofLink(link, what), () -> plain.ofLink(link, what));
        } else if (chance < 11) {
            int of = draw(10) == 0 ? what : draw(4);
            both("ofTrain(" + train + ", " + of + ")", () -> it.ofTrain(train, of), () -> plain.ofTrain(train, of));
        } else if (chance < 16) {
            askPerson(about(0, plain.persons() - 1));
        } else if (chance < 18) {
            both("foretell(" + room + ", " + seconds + ")",
                    () -> it.foretell(room, seconds), () -> plain.foretell(room, seconds));
        } else if (chance < 19) {
            both("clears()", it::clears, plain::clears);
        } else {
            both("now()", it::now, plain::now);
        }
    }

    private void askPerson(int person) {
        int what = about(0, 6);
        both("person(" + person + ", " + what + ")", () -> it.person(person, what), () -> plain.person(person, what));
        both("alone(" + person + ")", () -> it.alone(person), () -> plain.alone(person));
        both("aloneAnew(" + person + ")", () -> it.aloneAnew(person), () -> plain.alone(person));
    }
}
