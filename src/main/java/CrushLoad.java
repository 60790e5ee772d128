/** A great station in its worst hour, second by second. README.md tells how to use it. */
public final class CrushLoad {
    public static final int NONE = -1;
    public static final int STREET = 0, HALL = 1, PLATFORM = 2;
    public static final int DOOR = 0, STAIR = 1, LIFT = 2, MOVING = 3, GATE = 4;
    public static final int WAITS = 0, ON_WAY = 1, GONE = 2, OUT = 3;

    private static final int MOST_ROOMS = 10, MOST_LINKS = 14, MOST_PERSONS = 120, MOST_TRAINS = 12;
    private static final int MOST_LIMIT = 60, MOST_STEPS = 5, MOST_RATE = 9, MOST_GROUP = 9;
    private static final int MOST_ALIGHT = 20, MOST_SPACE = 99, MOST_STAYS = 9;
    private static final int MOST_SECONDS = 60, MOST_TO_CLEAR = 100;
    private static final int ABOARD_A_SECOND = 4, MOST_LONGER = 3;

    /** Walkers are of four kinds, as these two marks are set or not. */
    private static final int WITH_CHAIR = 1, KNOWING = 2, WALKERS = 4;

    /** More than any way that can be gone. */
    private static final int FAR = 1000;

    private final Station station = new Station();

    /** Kept and used again, so that foretelling makes no objects. */
    private final Station foretold = new Station();

    public CrushLoad() {
    }

    // ---- the station

    public int room(int kind, int limit) throws IllegalArgumentException, IllegalStateException {
        needRange(kind, STREET, PLATFORM);
        needRange(limit, 1, MOST_LIMIT);
        needPlace(station.rooms.count < MOST_ROOMS);
        int room = station.rooms.add(kind, limit);
        station.reckonWays();
        return room;
    }

    public int link(int kind, int from, int to, int steps, int rate)
            throws IndexOutOfBoundsException, IllegalArgumentException, IllegalStateException {
        needRoom(from);
        needRoom(to);
        needFit(from != to);
        needRange(kind, DOOR, GATE);
        needRange(steps, 1, MOST_STEPS);
        needRange(rate, 0, MOST_RATE);
        needPlace(station.links.count < MOST_LINKS);
        int link = station.links.add(kind, from, to, steps, rate);
        station.reckonWays();
        return link;
    }

    public boolean close(int link, boolean is) throws IndexOutOfBoundsException {
        needLink(link);
        boolean was = station.links.closed[link];
        station.links.closed[link] = is;
        station.reckonWays();
        return was;
    }

    public int announce() {
        int closings = station.links.announceClosings();
        station.reckonWays();
        return closings;
    }

    public boolean turn(int link) throws IndexOutOfBoundsException, IllegalArgumentException {
        needLink(link);
        needFit(station.links.kind[link] == MOVING);
        boolean back = !station.links.turned[link];
        station.links.turned[link] = back;
        station.reckonWays();
        return back;
    }

    public boolean stop(int link, boolean is) throws IndexOutOfBoundsException, IllegalArgumentException {
        needLink(link);
        needFit(station.links.kind[link] == MOVING);
        boolean was = station.links.stopped[link];
        station.links.stopped[link] = is;
        station.reckonWays();
        return was;
    }

    public int meter(int link, int rate) throws IndexOutOfBoundsException, IllegalArgumentException {
        needLink(link);
        needRange(rate, 0, MOST_RATE);
        int was = station.links.rate[link];
        station.links.rate[link] = rate;
        return was;
    }

    // ---- persons, trains, seconds

    public int enter(int street, int goal, boolean hasChair, boolean knows, int group)
            throws IndexOutOfBoundsException, IllegalArgumentException, IllegalStateException {
        needRoom(street);
        needRoom(goal);
        needFit(station.rooms.isStreet(street));
        needFit(station.rooms.kind[goal] != HALL);
        needRange(group, NONE, MOST_GROUP);
        needPlace(station.persons.count < MOST_PERSONS);
        int walker = (hasChair ? WITH_CHAIR : 0) | (knows ? KNOWING : 0);
        return station.comeFromOutside(street, goal, walker, group);
    }

    public int train(int platform, int alight, int street, int space, int stays)
            throws IndexOutOfBoundsException, IllegalArgumentException, IllegalStateException {
        needRoom(platform);
        needRoom(street);
        needFit(station.rooms.kind[platform] == PLATFORM);
        needFit(station.rooms.isStreet(street));
        needRange(alight, 0, MOST_ALIGHT);
        needRange(space, 0, MOST_SPACE);
        needRange(stays, 1, MOST_STAYS);
        needPlace(station.trains.count < MOST_TRAINS);
        needPlace(!station.trains.isOneAt(platform));
        int alighted = station.alight(platform, street, alight);
        return station.trains.add(platform, alighted, space, stays);
    }

    public int clear() {
        return station.orderToClear();
    }

    public int pass(int seconds) throws IllegalArgumentException {
        needRange(seconds, 1, MOST_SECONDS);
        for (int i = 0; i < seconds; i++) {
            station.passSecond();
        }
        return station.second;
    }

    // ---- what there is; nothing from here on changes anything

    public int now() {
        return station.second;
    }

    public int ofRoom(int room, int what) throws IndexOutOfBoundsException, IllegalArgumentException {
        needRoom(room);
        needRange(what, 0, 4);
        switch (what) {
            case 0: return station.rooms.waiting(room);
            case 1: return station.rooms.coming[room];
            case 2: return station.rooms.alarm[room] ? 1 : 0;
            case 3: return station.rooms.came[room];
            default: return station.rooms.left[room];
        }
    }

    public int ofLink(int link, int what) throws IndexOutOfBoundsException, IllegalArgumentException {
        needLink(link);
        needRange(what, 0, 4);
        switch (what) {
            case 0: return station.links.closed[link] ? 1 : 0;
            case 1: return station.links.begunForth[link];
            case 2: return station.links.begunBack[link];
            case 3: return station.waitingFor(link);
            default: return station.links.rateAsItIs(link);
        }
    }

    public int person(int person, int what) throws IndexOutOfBoundsException, IllegalArgumentException {
        needPerson(person);
        needRange(what, 0, 6);
        switch (what) {
            case 0: return station.persons.state[person];
            case 1: return station.persons.room[person];
            case 2: return station.persons.goal[person];
            case 3: return station.nextLink(person);
            case 4: return station.persons.isKnowing(person) ? 1 : 0;
            case 5: return station.persons.wantsTrain[person] ? 1 : 0;
            default: return station.persons.came[person];
        }
    }

    public int ofTrain(int train, int what) throws IndexOutOfBoundsException, IllegalArgumentException {
        needTrain(train);
        needRange(what, 0, 3);
        switch (what) {
            case 0: return station.trains.aboard[train];
            case 1: return station.trains.alighted[train];
            case 2: return station.trains.isThere(train) ? 1 : 0;
            default: return station.trains.stays[train];
        }
    }

    public int foretell(int room, int seconds) throws IndexOutOfBoundsException, IllegalArgumentException {
        needRoom(room);
        needRange(seconds, 1, MOST_SECONDS);
        foretold.copyFrom(station);
        for (int i = 0; i < seconds; i++) {
            foretold.passSecond();
        }
        return foretold.rooms.waiting(room);
    }

    public int clears() {
        foretold.copyFrom(station);
        foretold.orderToClear();
        for (int passed = 0; passed < MOST_TO_CLEAR; passed++) {
            if (!foretold.persons.isAnyInside()) {
                return passed;
            }
            foretold.passSecond();
        }
        return foretold.persons.isAnyInside() ? NONE : MOST_TO_CLEAR;
    }

    public int alone(int person) throws IndexOutOfBoundsException {
        needPerson(person);
        return station.distance(person);
    }

    public int aloneAnew(int person) throws IndexOutOfBoundsException {
        needPerson(person);
        int room = station.persons.room[person];
        int goal = station.persons.goal[person];
        return tryAllWays(station.links, station.persons.walker[person], room, goal, 1 << room, 0);
    }

    // ---- what arguments have to be

    private static void needRange(int value, int least, int most) {
        if (value < least || value > most) {
            throw new IllegalArgumentException("out of range");
        }
    }

    private static void needFit(boolean fits) {
        if (!fits) {
            throw new IllegalArgumentException("does not fit");
        }
    }

    private static void needPlace(boolean free) {
        if (!free) {
            throw new IllegalStateException("no place for one more");
        }
    }

    private void needRoom(int room) {
        if (!station.rooms.has(room)) {
            throw new IndexOutOfBoundsException("no such room");
        }
    }

    private void needLink(int link) {
        if (!station.links.has(link)) {
            throw new IndexOutOfBoundsException("no such link");
        }
    }

    private void needPerson(int person) {
        if (!station.persons.has(person)) {
            throw new IndexOutOfBoundsException("no such person");
        }
    }

    private void needTrain(int train) {
        if (!station.trains.has(train)) {
            throw new IndexOutOfBoundsException("no such train");
        }
    }

    /** The least sum of steps to the goal over ways that enter no room twice; the rooms entered are bits. */
    private static int tryAllWays(Links links, int walker, int room, int goal, int entered, int depth) {
        if (room == goal) {
            return 0;
        }
        if (depth >= MOST_ROOMS) {
            return NONE;
        }
        int least = NONE;
        for (int link = 0; link < links.count; link++) {
            int behind = links.roomBehind(link, room, walker);
            if (behind == NONE || (entered & 1 << behind) != 0) {
                continue;
            }
            int rest = tryAllWays(links, walker, behind, goal, entered | 1 << behind, depth + 1);
            if (rest != NONE && (least == NONE || links.steps[link] + rest < least)) {
                least = links.steps[link] + rest;
            }
        }
        return least;
    }

    /** Rooms, by number. */
    private static final class Rooms {
        int count;
        final int[] kind = new int[MOST_ROOMS];
        final int[] limit = new int[MOST_ROOMS];
        final int[] coming = new int[MOST_ROOMS];
        final int[] came = new int[MOST_ROOMS];
        final int[] left = new int[MOST_ROOMS];
        final boolean[] alarm = new boolean[MOST_ROOMS];

        boolean has(int room) {
            return room >= 0 && room < count;
        }

        int add(int kindOfIt, int limitOfIt) {
            int room = count;
            if (room >= MOST_ROOMS) {
                return NONE;
            }
            kind[room] = kindOfIt;
            limit[room] = limitOfIt;
            count = room + 1;
            return room;
        }

        boolean isStreet(int room) {
            return has(room) && kind[room] == STREET;
        }

        int waiting(int room) {
            return has(room) ? came[room] - left[room] : 0;
        }

        /** How many more the room holds, but no more than the most asked for. */
        int places(int room, int most) {
            if (!has(room)) {
                return 0;
            }
            if (kind[room] == STREET) {
                return most;
            }
            return Math.max(0, Math.min(most, limit[room] + left[room] - came[room] - coming[room]));
        }

        /** On and off at different numbers, so that alarms do not flicker. */
        void setAlarms() {
            for (int room = 0; room < count; room++) {
                if (kind[room] != STREET) {
                    int tenfold = 10 * waiting(room);
                    alarm[room] = alarm[room] ? tenfold > 7 * limit[room] : tenfold >= 9 * limit[room];
                }
            }
        }

        void copyFrom(Rooms other) {
            count = other.count;
            for (int room = 0; room < MOST_ROOMS; room++) {
                kind[room] = other.kind[room];
                limit[room] = other.limit[room];
                coming[room] = other.coming[room];
                came[room] = other.came[room];
                left[room] = other.left[room];
                alarm[room] = other.alarm[room];
            }
        }
    }

    /** Links, by number. */
    private static final class Links {
        int count;
        /** To clear: gates go both ways from then on. */
        boolean ordered;
        final int[] kind = new int[MOST_LINKS];
        final int[] from = new int[MOST_LINKS];
        final int[] to = new int[MOST_LINKS];
        final int[] steps = new int[MOST_LINKS];
        final int[] rate = new int[MOST_LINKS];
        final int[] begunForth = new int[MOST_LINKS];
        final int[] begunBack = new int[MOST_LINKS];
        final boolean[] closed = new boolean[MOST_LINKS];
        final boolean[] announced = new boolean[MOST_LINKS];
        final boolean[] turned = new boolean[MOST_LINKS];
        final boolean[] stopped = new boolean[MOST_LINKS];

        boolean has(int link) {
            return link >= 0 && link < count;
        }

        int add(int kindOfIt, int fromRoom, int toRoom, int stepsOfIt, int rateOfIt) {
            int link = count;
            if (link >= MOST_LINKS) {
                return NONE;
            }
            kind[link] = kindOfIt;
            from[link] = fromRoom;
            to[link] = toRoom;
            steps[link] = stepsOfIt;
            rate[link] = rateOfIt;
            count = link + 1;
            return link;
        }

        int announceClosings() {
            int closings = 0;
            for (int link = 0; link < count; link++) {
                announced[link] = closed[link];
                closings += closed[link] ? 1 : 0;
            }
            return closings;
        }

        int rateAsItIs(int link) {
            if (!has(link)) {
                return 0;
            }
            return stopped[link] ? (rate[link] + 1) / 2 : rate[link];
        }

        boolean isClosed(int link) {
            return has(link) && closed[link];
        }

        /** The room to which such a walker thinks that the link leads from this room; NONE if it does not. */
        int roomBehind(int link, int room, int walker) {
            if (!has(link) || !isOpenTo(link, walker) || !carries(link, walker)) {
                return NONE;
            }
            if (room == from[link] && goesForth(link)) {
                return to[link];
            }
            if (room == to[link] && goesBack(link)) {
                return from[link];
            }
            return NONE;
        }

        private boolean isOpenTo(int link, int walker) {
            return (walker & KNOWING) != 0 ? !closed[link] : !announced[link];
        }

        private boolean carries(int link, int walker) {
            if ((walker & WITH_CHAIR) == 0) {
                return true;
            }
            return kind[link] == DOOR || kind[link] == LIFT || kind[link] == GATE;
        }

        private boolean goesForth(int link) {
            return kind[link] != MOVING || stopped[link] || !turned[link];
        }

        private boolean goesBack(int link) {
            if (kind[link] == MOVING) {
                return stopped[link] || turned[link];
            }
            return kind[link] != GATE || ordered;
        }

        void copyFrom(Links other) {
            count = other.count;
            ordered = other.ordered;
            for (int link = 0; link < MOST_LINKS; link++) {
                kind[link] = other.kind[link];
                from[link] = other.from[link];
                to[link] = other.to[link];
                steps[link] = other.steps[link];
                rate[link] = other.rate[link];
                begunForth[link] = other.begunForth[link];
                begunBack[link] = other.begunBack[link];
                closed[link] = other.closed[link];
                announced[link] = other.announced[link];
                turned[link] = other.turned[link];
                stopped[link] = other.stopped[link];
            }
        }
    }

    /** Persons, by number. */
    private static final class Persons {
        int count;
        final int[] state = new int[MOST_PERSONS];
        final int[] room = new int[MOST_PERSONS];
        final int[] goal = new int[MOST_PERSONS];
        final int[] walker = new int[MOST_PERSONS];
        final int[] group = new int[MOST_PERSONS];
        final int[] came = new int[MOST_PERSONS];
        final boolean[] wantsTrain = new boolean[MOST_PERSONS];

        boolean has(int person) {
            return person >= 0 && person < count;
        }

        int add(int roomOfIt, int goalOfIt, int walkerOfIt, int groupOfIt, int second) {
            int person = count;
            if (person >= MOST_PERSONS) {
                return NONE;
            }
            state[person] = WAITS;
            room[person] = roomOfIt;
            goal[person] = goalOfIt;
            walker[person] = walkerOfIt;
            group[person] = groupOfIt;
            came[person] = second;
            count = person + 1;
            return person;
        }

        boolean isWaiting(int person) {
            return has(person) && state[person] == WAITS;
        }

        /** Whether the person is neither gone nor out. */
        boolean isInside(int person) {
            return has(person) && (state[person] == WAITS || state[person] == ON_WAY);
        }

        boolean isKnowing(int person) {
            return has(person) && (walker[person] & KNOWING) != 0;
        }

        boolean isAnyInside() {
            for (int person = 0; person < count; person++) {
                if (isInside(person)) {
                    return true;
                }
            }
            return false;
        }

        /** The one who came first of those who wait for a train at this platform; NONE without one. */
        int firstForTrain(int platform) {
            int first = NONE;
            for (int person = 0; person < count; person++) {
                boolean waits = isWaiting(person) && wantsTrain[person]
                        && room[person] == platform && goal[person] == platform;
                if (waits && (first == NONE || came[person] < came[first])) {
                    first = person;
                }
            }
            return first;
        }

        /** Whether the one begins on a link before the other; on a lift those with a chair do. */
        boolean isAhead(int one, int other, boolean lift) {
            if (!has(one) || !has(other)) {
                return false;
            }
            int chair = walker[one] & WITH_CHAIR;
            if (lift && chair != (walker[other] & WITH_CHAIR)) {
                return chair != 0;
            }
            return came[one] != came[other] ? came[one] < came[other] : one < other;
        }

        void copyFrom(Persons other) {
            count = other.count;
            for (int person = 0; person < count && person < MOST_PERSONS; person++) {
                state[person] = other.state[person];
                room[person] = other.room[person];
                goal[person] = other.goal[person];
                walker[person] = other.walker[person];
                group[person] = other.group[person];
                came[person] = other.came[person];
                wantsTrain[person] = other.wantsTrain[person];
            }
        }
    }

    /** Trains, by number; one that stays for no more seconds has left. */
    private static final class Trains {
        int count;
        final int[] platform = new int[MOST_TRAINS];
        final int[] space = new int[MOST_TRAINS];
        final int[] stays = new int[MOST_TRAINS];
        final int[] longer = new int[MOST_TRAINS];
        final int[] aboard = new int[MOST_TRAINS];
        final int[] alighted = new int[MOST_TRAINS];

        boolean has(int train) {
            return train >= 0 && train < count;
        }

        int add(int platformOfIt, int alightedOfIt, int spaceOfIt, int staysOfIt) {
            int train = count;
            if (train >= MOST_TRAINS) {
                return NONE;
            }
            platform[train] = platformOfIt;
            alighted[train] = alightedOfIt;
            space[train] = spaceOfIt;
            stays[train] = staysOfIt;
            count = train + 1;
            return train;
        }

        boolean isThere(int train) {
            return has(train) && stays[train] > 0;
        }

        boolean isOneAt(int room) {
            for (int train = 0; train < count; train++) {
                if (isThere(train) && platform[train] == room) {
                    return true;
                }
            }
            return false;
        }

        void copyFrom(Trains other) {
            count = other.count;
            for (int train = 0; train < MOST_TRAINS; train++) {
                platform[train] = other.platform[train];
                space[train] = other.space[train];
                stays[train] = other.stays[train];
                longer[train] = other.longer[train];
                aboard[train] = other.aboard[train];
                alighted[train] = other.alighted[train];
            }
        }
    }

    /** Distances and next links by walker, room and goal, reckoned anew when a room or a link changes. */
    private static final class Ways {
        private final int[] distances = new int[WALKERS * MOST_ROOMS * MOST_ROOMS];
        private final int[] nexts = new int[WALKERS * MOST_ROOMS * MOST_ROOMS];

        int distance(int walker, int room, int goal) {
            int cell = cell(walker, room, goal);
            return cell == NONE || distances[cell] >= FAR ? NONE : distances[cell];
        }

        int next(int walker, int room, int goal) {
            int cell = cell(walker, room, goal);
            return cell == NONE ? NONE : nexts[cell];
        }

        void reckon(int rooms, Links links) {
            int count = Math.min(rooms, MOST_ROOMS);
            for (int walker = 0; walker < WALKERS; walker++) {
                clean(walker);
                for (int link = 0; link < links.count; link++) {
                    lay(walker, link, links.from[link], links);
                    lay(walker, link, links.to[link], links);
                }
                join(walker * MOST_ROOMS * MOST_ROOMS, count);
                for (int link = 0; link < links.count; link++) {
                    choose(walker, link, links.from[link], links);
                    choose(walker, link, links.to[link], links);
                }
            }
        }

        private static int cell(int walker, int room, int goal) {
            boolean is = walker >= 0 && walker < WALKERS
                    && room >= 0 && room < MOST_ROOMS && goal >= 0 && goal < MOST_ROOMS;
            return is ? (walker * MOST_ROOMS + room) * MOST_ROOMS + goal : NONE;
        }

        private void clean(int walker) {
            int first = walker * MOST_ROOMS * MOST_ROOMS;
            for (int i = 0; i < MOST_ROOMS * MOST_ROOMS; i++) {
                distances[first + i] = i / MOST_ROOMS == i % MOST_ROOMS ? 0 : FAR;
                nexts[first + i] = NONE;
            }
        }

        private void lay(int walker, int link, int room, Links links) {
            int cell = cell(walker, room, links.roomBehind(link, room, walker));
            if (cell != NONE) {
                distances[cell] = Math.min(distances[cell], links.steps[link]);
            }
        }

        private void join(int first, int rooms) {
            for (int via = 0; via < rooms; via++) {
                for (int room = 0; room < rooms; room++) {
                    int there = distances[first + room * MOST_ROOMS + via];
                    for (int goal = 0; goal < rooms && there < FAR; goal++) {
                        int sum = there + distances[first + via * MOST_ROOMS + goal];
                        int cell = first + room * MOST_ROOMS + goal;
                        distances[cell] = Math.min(distances[cell], sum);
                    }
                }
            }
        }

        private void choose(int walker, int link, int room, Links links) {
            int behind = links.roomBehind(link, room, walker);
            for (int goal = 0; goal < MOST_ROOMS && behind != NONE; goal++) {
                int here = cell(walker, room, goal);
                int there = cell(walker, behind, goal);
                if (here == NONE || there == NONE || nexts[here] != NONE) {
                    continue;
                }
                if (distances[here] < FAR && distances[here] == links.steps[link] + distances[there]) {
                    nexts[here] = link;
                }
            }
        }

        void copyFrom(Ways other) {
            for (int cell = 0; cell < WALKERS * MOST_ROOMS * MOST_ROOMS; cell++) {
                distances[cell] = other.distances[cell];
                nexts[cell] = other.nexts[cell];
            }
        }
    }

    /** All that there is, and how a second passes in it. */
    private static final class Station {
        final Rooms rooms = new Rooms();
        final Links links = new Links();
        final Persons persons = new Persons();
        final Trains trains = new Trains();
        final Ways ways = new Ways();
        int second;

        /** Of the second that passes: the next links of all, those of the link at hand, and how many began on it. */
        private final int[] next = new int[MOST_PERSONS];
        private final int[] queue = new int[MOST_PERSONS];
        private int queued;
        private int begun;

        void copyFrom(Station other) {
            rooms.copyFrom(other.rooms);
            links.copyFrom(other.links);
            persons.copyFrom(other.persons);
            trains.copyFrom(other.trains);
            ways.copyFrom(other.ways);
            second = other.second;
        }

        void reckonWays() {
            ways.reckon(rooms.count, links);
        }

        int distance(int person) {
            if (!persons.has(person)) {
                return NONE;
            }
            return ways.distance(persons.walker[person], persons.room[person], persons.goal[person]);
        }

        int nextLink(int person) {
            if (!persons.isWaiting(person)) {
                return NONE;
            }
            return ways.next(persons.walker[person], persons.room[person], persons.goal[person]);
        }

        int waitingFor(int link) {
            int waiting = 0;
            for (int person = 0; person < persons.count; person++) {
                if (persons.isWaiting(person) && nextLink(person) == link) {
                    waiting++;
                }
            }
            return waiting;
        }

        int comeFromOutside(int room, int goal, int walker, int group) {
            int person = persons.add(room, goal, walker, group, second);
            if (persons.has(person) && rooms.has(room) && rooms.has(goal)) {
                persons.wantsTrain[person] = rooms.kind[goal] == PLATFORM && !links.ordered;
                rooms.came[room]++;
                goOutAtGoal(person);
            }
            return person;
        }

        /** As many alight as the room and the numbers of persons allow. */
        int alight(int platform, int street, int wanted) {
            int most = Math.min(wanted, MOST_PERSONS - persons.count);
            int places = rooms.places(platform, most);
            for (int i = 0; i < places; i++) {
                comeFromOutside(platform, street, 0, NONE);
            }
            return places;
        }

        private void goOutAtGoal(int person) {
            if (persons.isWaiting(person) && persons.room[person] == persons.goal[person]) {
                int room = persons.room[person];
                if (rooms.isStreet(room)) {
                    persons.state[person] = OUT;
                    rooms.left[room]++;
                }
            }
        }

        /** Gates go both ways before anybody's goal is sought. */
        int orderToClear() {
            links.ordered = true;
            reckonWays();
            int changed = 0;
            for (int person = 0; person < persons.count; person++) {
                persons.wantsTrain[person] = false;
                if (persons.isInside(person) && takeNearestStreet(person)) {
                    changed++;
                }
                goOutAtGoal(person);
            }
            return changed;
        }

        /** Whether that is another goal than the one before. */
        private boolean takeNearestStreet(int person) {
            int walker = persons.walker[person];
            int room = persons.room[person];
            int nearest = NONE;
            int least = NONE;
            for (int street = 0; street < rooms.count; street++) {
                int distance = rooms.isStreet(street) ? ways.distance(walker, room, street) : NONE;
                if (distance != NONE && (least == NONE || distance < least)) {
                    nearest = street;
                    least = distance;
                }
            }
            if (nearest == NONE || nearest == persons.goal[person]) {
                return false;
            }
            persons.goal[person] = nearest;
            return true;
        }

        void passSecond() {
            second++;
            arrive();
            for (int train = 0; train < trains.count; train++) {
                serve(train);
            }
            chooseNextLinks();
            for (int link = 0; link < links.count; link++) {
                if (!links.closed[link]) {
                    beginOn(link);
                }
            }
            rooms.setAlarms();
        }

        private void arrive() {
            for (int person = 0; person < persons.count; person++) {
                int room = persons.room[person];
                if (persons.state[person] == ON_WAY && persons.came[person] <= second && rooms.has(room)) {
                    persons.state[person] = WAITS;
                    rooms.coming[room]--;
                    rooms.came[room]++;
                    goOutAtGoal(person);
                }
            }
        }

        private void serve(int train) {
            if (!trains.isThere(train)) {
                return;
            }
            int platform = trains.platform[train];
            int places = Math.min(ABOARD_A_SECOND, trains.space[train] - trains.aboard[train]);
            for (int i = 0; i < places; i++) {
                goAboard(persons.firstForTrain(platform), train);
            }
            trains.stays[train]--;
            boolean pressed = trains.aboard[train] < trains.space[train]
                    && persons.firstForTrain(platform) != NONE;
            if (trains.stays[train] == 0 && pressed && trains.longer[train] < MOST_LONGER) {
                trains.longer[train]++;
                trains.stays[train] = 1;
            }
        }

        private void goAboard(int person, int train) {
            if (persons.has(person) && rooms.has(persons.room[person]) && trains.has(train)) {
                persons.state[person] = GONE;
                rooms.left[persons.room[person]]++;
                trains.aboard[train]++;
            }
        }

        /** Who finds the next link closed learns the place, and loses this second by it. */
        private void chooseNextLinks() {
            for (int person = 0; person < persons.count; person++) {
                next[person] = nextLink(person);
                if (!persons.isKnowing(person) && links.isClosed(next[person])) {
                    persons.walker[person] |= KNOWING;
                    next[person] = NONE;
                }
            }
        }

        private void beginOn(int link) {
            lineUp(link);
            begun = 0;
            for (int i = 0; i < queued && i < MOST_PERSONS; i++) {
                int person = queue[i];
                // Others of a group may have taken this one along.
                if (persons.isWaiting(person)) {
                    beginTogether(person, link);
                }
            }
        }

        private void lineUp(int link) {
            queued = 0;
            boolean lift = links.has(link) && links.kind[link] == LIFT;
            for (int person = 0; person < persons.count; person++) {
                if (next[person] == link) {
                    lineUpPerson(person, lift);
                }
            }
        }

        private void lineUpPerson(int person, boolean lift) {
            if (queued >= MOST_PERSONS) {
                return;
            }
            int place = queued;
            for (; place > 0 && persons.isAhead(person, queue[place - 1], lift); place--) {
                queue[place] = queue[place - 1];
            }
            queue[place] = person;
            queued++;
        }

        /** One without a group is a party of one. */
        private void beginTogether(int person, int link) {
            int size = sizeOfReadyParty(person, link);
            if (size == 0 || !hasPlaceFor(size, person, link)) {
                return;
            }
            int group = persons.group[person];
            if (group == NONE) {
                begin(person, link);
                return;
            }
            for (int other = 0; other < persons.count; other++) {
                if (persons.group[other] == group && persons.isWaiting(other)) {
                    begin(other, link);
                }
            }
        }

        /** How many begin with this person, who is waiting; 0 if one of the group is not ready. */
        private int sizeOfReadyParty(int person, int link) {
            int group = persons.group[person];
            if (group == NONE) {
                return 1;
            }
            int size = 0;
            for (int other = 0; other < persons.count; other++) {
                if (persons.group[other] == group && persons.isInside(other)) {
                    boolean ready = persons.isWaiting(other) && next[other] == link
                            && persons.room[other] == persons.room[person];
                    if (!ready) {
                        return 0;
                    }
                    size++;
                }
            }
            return size;
        }

        private boolean hasPlaceFor(int size, int person, int link) {
            int rate = links.rateAsItIs(link);
            boolean rateAllows = begun + size <= rate || begun == 0 && rate > 0;
            int behind = links.roomBehind(link, persons.room[person], persons.walker[person]);
            return rateAllows && rooms.places(behind, size) >= size;
        }

        private void begin(int person, int link) {
            int room = persons.room[person];
            int behind = links.roomBehind(link, room, persons.walker[person]);
            if (!rooms.has(room) || !rooms.has(behind)) {
                return;
            }
            if (room == links.from[link]) {
                links.begunForth[link]++;
            } else {
                links.begunBack[link]++;
            }
            begun++;
            rooms.left[room]++;
            rooms.coming[behind]++;
            persons.state[person] = ON_WAY;
            persons.room[person] = behind;
            persons.came[person] = second + links.steps[link];
        }
    }
}
