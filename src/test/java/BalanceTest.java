import java.util.ArrayList;
import java.util.List;
import java.util.function.IntBinaryOperator;

/**
 * What has to add up in every run, whatever the run is: "No room ever holds more than it may, and flows balance at
 * each link", and what is foretold comes so. Each look is at an object made anew, so that none is used too often.
 */
public final class BalanceTest {
    private static final int RUNS = 80;
    private static final int SECONDS = 40;
    private static final int MOST_ENTER = 30;

    private interface Act {
        int on(CrushLoad it);
    }

    /** All that an object tells of its rooms, links, trains and persons; by number, and then by what. */
    private record Look(int[][] rooms, int[][] links, int[][] trains, int[][] persons) {
        /** How many persons are so, in that room. */
        int count(int state, int room) {
            int found = 0;
            for (int[] person : persons) {
                found += person[0] == state && person[1] == room ? 1 : 0;
            }
            return found;
        }
    }

    private final Due due;
    private final int run;
    private final boolean groups;
    private final List<Act> acts = new ArrayList<>();
    /** Kind and limit of each. */
    private final List<int[]> rooms = new ArrayList<>();
    /** Kind, first room, second room, steps, rate, whether turned, stopped. */
    private final List<int[]> links = new ArrayList<>();
    /** Platform and space of each. */
    private final List<int[]> trains = new ArrayList<>();
    private final int[] entered = new int[10];
    private int persons;
    private boolean ordered;
    private long seed;

    private BalanceTest(Due due, int run) {
        this.due = due;
        this.run = run;
        this.groups = run % 2 == 0;
        this.seed = 31L * run + 7;
    }

    public static void main(String[] args) {
        Due due = new Due("BalanceTest");
        for (int run = 0; run < RUNS; run++) {
            new BalanceTest(due, run).play();
        }
        due.end();
    }

    private int draw(int below) {
        seed = seed * 6364136223846793005L + 1442695040888963407L;
        return (int) Long.remainderUnsigned(seed >>> 33, below);
    }

    private void is(String label, long got, long want) {
        due.is("run " + run + ", " + label, got, want);
    }

    private void holds(String label, boolean is) {
        due.is("run " + run + ", " + label, is, true);
    }

    // ---- the run

    private void play() {
        build();
        for (int second = 1; second <= SECONDS; second++) {
            for (int i = draw(3); i > 0; i--) {
                change();
            }
            Look before = look();
            balance(before, "before second " + second);
            acts.add(it -> it.pass(1));
            Look after = look();
            balance(after, "second " + second);
            onePassed(before, after, "second " + second);
            if (second % 10 == 0) {
                ways("second " + second);
                foretold(1 + draw(60), "second " + second);
                clearing("second " + second);
            }
        }
        int asked = 5 * rooms.size() + 5 * links.size() + 3 * trains.size() + 3 * look().persons().length;
        holds("no object is used too often", acts.size() + asked <= 512);
    }

    private void build() {
        addRoom(CrushLoad.STREET);
        addRoom(CrushLoad.PLATFORM);
        for (int many = 3 + draw(8); rooms.size() < many;) {
            addRoom(draw(3));
        }
        for (int many = 4 + draw(11); links.size() < many;) {
            int from = draw(rooms.size());
            int to = (from + 1 + draw(rooms.size() - 1)) % rooms.size();
            int kind = draw(5);
            int steps = 1 + draw(5);
            int rate = draw(7);
            links.add(new int[] {kind, from, to, steps, rate, 0, 0});
            acts.add(it -> it.link(kind, from, to, steps, rate));
        }
    }

    private void addRoom(int kind) {
        int limit = 1 + draw(draw(3) == 0 ? 60 : 9);
        rooms.add(new int[] {kind, limit});
        acts.add(it -> it.room(kind, limit));
    }

    private void change() {
        int chance = draw(40);
        int link = draw(links.size());
        boolean is = draw(2) == 0;
        if (chance < 26) {
            enter(is);
        } else if (chance < 32) {
            comeTrain();
        } else if (chance < 34) {
            acts.add(it -> it.close(link, is) ? 1 : 0);
        } else if (chance < 35) {
            acts.add(CrushLoad::announce);
        } else if (chance < 37) {
            int rate = draw(10);
            links.get(link)[4] = rate;
            acts.add(it -> it.meter(link, rate));
        } else if (chance < 39) {
            move(link, is);
        } else if (draw(4) == 0) {
            ordered = true;
            acts.add(CrushLoad::clear);
        }
    }

    private void move(int link, boolean is) {
        if (links.get(link)[0] != CrushLoad.MOVING) {
            return;
        }
        if (draw(2) == 0) {
            links.get(link)[5] ^= 1;
            acts.add(it -> it.turn(link) ? 1 : 0);
        } else {
            links.get(link)[6] = is ? 1 : 0;
            acts.add(it -> it.stop(link, is) ? 1 : 0);
        }
    }

    private void enter(boolean knows) {
        int street = roomOf(CrushLoad.STREET);
        int goal = roomOf(draw(4) == 0 ? CrushLoad.STREET : CrushLoad.PLATFORM);
        boolean chair = draw(5) == 0;
        int group = groups && draw(2) == 0 ? draw(10) : CrushLoad.NONE;
        for (int i = 1 + draw(3); i > 0 && persons < MOST_ENTER; i--) {
            persons++;
            entered[street]++;
            acts.add(it -> it.enter(street, goal, chair, knows, group));
        }
    }

    private void comeTrain() {
        int platform = roomOf(CrushLoad.PLATFORM);
        int street = roomOf(CrushLoad.STREET);
        int[][] there = look().trains();
        for (int train = 0; train < there.length; train++) {
            if (trains.get(train)[0] == platform && there[train][2] == 1) {
                return;
            }
        }
        if (trains.size() < 12) {
            int space = draw(10);
            int alight = draw(4);
            int stays = 1 + draw(6);
            trains.add(new int[] {platform, space});
            acts.add(it -> it.train(platform, alight, street, space, stays));
        }
    }

    private int roomOf(int kind) {
        int room = draw(rooms.size());
        while (rooms.get(room)[0] != kind) {
            room = (room + 1) % rooms.size();
        }
        return room;
    }

    private CrushLoad again() {
        CrushLoad it = new CrushLoad();
        for (Act act : acts) {
            act.on(it);
        }
        return it;
    }

    private Look look() {
        CrushLoad it = again();
        int[][] ofRooms = new int[rooms.size()][];
        for (int i = 0; i < ofRooms.length; i++) {
            ofRooms[i] = answers(5, i, it::ofRoom);
        }
        int[][] ofLinks = new int[links.size()][];
        for (int i = 0; i < ofLinks.length; i++) {
            ofLinks[i] = answers(5, i, it::ofLink);
        }
        int[][] ofTrains = new int[trains.size()][];
        int all = persons;
        for (int i = 0; i < ofTrains.length; i++) {
            ofTrains[i] = answers(3, i, it::ofTrain);
            all += ofTrains[i][1];
        }
        int[][] ofPersons = new int[all][];
        for (int i = 0; i < all; i++) {
            ofPersons[i] = new int[] {it.person(i, 0), it.person(i, 1), it.person(i, 3)};
        }
        return new Look(ofRooms, ofLinks, ofTrains, ofPersons);
    }

    private static int[] answers(int whats, int number, IntBinaryOperator asked) {
        int[] found = new int[whats];
        for (int what = 0; what < whats; what++) {
            found[what] = asked.applyAsInt(number, what);
        }
        return found;
    }

    // ---- what has to hold

    private void balance(Look look, String when) {
        for (int room = 0; room < rooms.size(); room++) {
            String label = when + ", room " + room;
            int[] of = look.rooms()[room];
            holds(label + " holds no more than it may",
                    rooms.get(room)[0] == CrushLoad.STREET || of[0] + of[1] <= rooms.get(room)[1]);
            is(label + " has who wait", of[0], look.count(CrushLoad.WAITS, room));
            is(label + " has who are on the way to it", of[1], look.count(CrushLoad.ON_WAY, room));
            is(label + " has who came and did not leave", of[0], of[3] - of[4]);
            is(label + " has who came", of[3] + of[1], entered[room] + alighted(look, room) + begun(look, room, true));
            is(label + " has who left", of[4], begun(look, room, false)
                    + look.count(CrushLoad.GONE, room) + look.count(CrushLoad.OUT, room));
        }
        int aboard = 0;
        int nexts = 0;
        for (int train = 0; train < trains.size(); train++) {
            aboard += look.trains()[train][0];
            holds(when + ", train " + train + " has space", look.trains()[train][0] <= trains.get(train)[1]);
        }
        int gone = 0;
        int waiting = 0;
        for (int[] person : look.persons()) {
            gone += person[0] == CrushLoad.GONE ? 1 : 0;
            waiting += person[2] != CrushLoad.NONE ? 1 : 0;
            holds(when + ", only who waits has a next link",
                    person[0] == CrushLoad.WAITS || person[2] == CrushLoad.NONE);
        }
        for (int link = 0; link < links.size(); link++) {
            nexts += look.links()[link][3];
        }
        is(when + ", who is gone is aboard", aboard, gone);
        is(when + ", links are next ones", nexts, waiting);
    }

    private int alighted(Look look, int room) {
        int sum = 0;
        for (int train = 0; train < trains.size(); train++) {
            sum += trains.get(train)[0] == room ? look.trains()[train][1] : 0;
        }
        return sum;
    }

    /** How many began on links to the room, or from it. */
    private int begun(Look look, int room, boolean into) {
        int sum = 0;
        for (int link = 0; link < links.size(); link++) {
            sum += links.get(link)[into ? 2 : 1] == room ? look.links()[link][1] : 0;
            sum += links.get(link)[into ? 1 : 2] == room ? look.links()[link][2] : 0;
        }
        return sum;
    }

    private void onePassed(Look before, Look after, String when) {
        for (int link = 0; link < links.size(); link++) {
            String label = when + ", link " + link;
            int[] of = links.get(link);
            int[] was = before.links()[link];
            int[] is = after.links()[link];
            boolean stopped = of[6] == 1;
            int rate = stopped ? of[4] - of[4] / 2 : of[4];
            int forth = is[1] - was[1];
            int back = is[2] - was[2];
            is(label + " has its rate", is[4], rate);
            holds(label + " carries as its rate tells",
                    forth >= 0 && back >= 0 && (forth + back <= rate || groups && rate > 0));
            holds(label + " carries nobody if it is closed", forth + back == 0 || is[0] == 0);
            boolean moves = of[0] == CrushLoad.MOVING && !stopped;
            holds(label + " carries forth", forth == 0 || !moves || of[5] == 0);
            holds(label + " carries back", back == 0 || (of[0] == CrushLoad.GATE ? ordered : !moves || of[5] == 1));
        }
        for (int train = 0; train < trains.size(); train++) {
            int more = after.trains()[train][0] - before.trains()[train][0];
            int most = before.trains()[train][2] == 1 ? 4 : 0;
            holds(when + ", train " + train + " takes at most 4", more >= 0 && more <= most);
        }
        for (int room = 0; room < rooms.size(); room++) {
            int limit = rooms.get(room)[0] == CrushLoad.STREET ? Integer.MAX_VALUE / 9 : rooms.get(room)[1];
            int tenfold = 10 * after.rooms()[room][0];
            boolean on = tenfold >= 9 * limit || before.rooms()[room][2] == 1 && tenfold > 7 * limit;
            is(when + ", room " + room + "'s alarm", after.rooms()[room][2], on ? 1 : 0);
        }
    }

    private void ways(String when) {
        int all = look().persons().length;
        CrushLoad it = again();
        for (int person = 0; person < all; person++) {
            String label = when + ", person " + person;
            int distance = it.alone(person);
            is(label + " anew", it.aloneAnew(person), distance);
            int next = it.person(person, 3);
            boolean goes = it.person(person, 0) == CrushLoad.WAITS && distance > 0;
            is(label + " has a next link", next == CrushLoad.NONE ? 0 : 1, goes ? 1 : 0);
            holds(label + " is as far as the next link is long",
                    next == CrushLoad.NONE || distance >= links.get(next)[3]);
        }
    }

    /** As many wait as was foretold; seconds that pass at once or one by one are the same. */
    private void foretold(int seconds, String when) {
        CrushLoad asked = again();
        CrushLoad atOnce = again();
        CrushLoad oneByOne = again();
        atOnce.pass(seconds);
        for (int i = 0; i < seconds; i++) {
            oneByOne.pass(1);
        }
        for (int room = 0; room < rooms.size(); room++) {
            int then = atOnce.ofRoom(room, 0);
            is(when + ", foretold of room " + room + " in " + seconds, asked.foretell(room, seconds), then);
            is(when + ", one by one, room " + room + " in " + seconds, oneByOne.ofRoom(room, 0), then);
        }
    }

    private void clearing(String when) {
        int all = look().persons().length;
        int foretold = again().clears();
        int passed = 0;
        while (passed < 100 && !isEmpty(clearedFor(passed), all)) {
            passed++;
        }
        boolean empty = isEmpty(clearedFor(passed), all);
        is(when + ", the order to clear", foretold, empty ? passed : CrushLoad.NONE);
    }

    private CrushLoad clearedFor(int seconds) {
        CrushLoad it = again();
        it.clear();
        for (int i = 0; i < seconds; i++) {
            it.pass(1);
        }
        return it;
    }

    private static boolean isEmpty(CrushLoad it, int persons) {
        for (int person = 0; person < persons; person++) {
            int state = it.person(person, 0);
            if (state == CrushLoad.WAITS || state == CrushLoad.ON_WAY) {
                return false;
            }
        }
        return true;
    }
}
