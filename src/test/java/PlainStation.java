import java.util.ArrayList;
import java.util.Comparator;
import java.util.List;

/** The document said once more, as plainly and slowly as may be, to compare answers with. */
final class PlainStation {
    private static final class Room {
        int kind;
        int limit;
        int came;
        int left;
        boolean alarm;
    }

    private static final class Link {
        int kind;
        Room from;
        Room to;
        int steps;
        int rate;
        boolean closed;
        boolean announced;
        boolean turned;
        boolean stopped;
        int forth;
        int back;

        int effectiveRate() {
            return kind == 3 && stopped ? rate / 2 + rate % 2 : rate;
        }

        Room behind(Room room) {
            return room == from ? to : from;
        }
    }

    private static final class Person {
        int number;
        int state;
        Room room;
        Room goal;
        boolean chair;
        boolean knows;
        boolean wants;
        int group;
        int came;
        Link next;
    }

    private static final class Train {
        Room platform;
        int aboard;
        int alighted;
        int space;
        int remains;
        int longer;
    }

    private final List<Room> rooms = new ArrayList<>();
    private final List<Link> links = new ArrayList<>();
    private final List<Person> persons = new ArrayList<>();
    private final List<Train> trains = new ArrayList<>();
    private int second;
    private boolean ordered;

    private static void check(boolean is, RuntimeException otherwise) {
        if (!is) {
            throw otherwise;
        }
    }

    private static <T> T at(List<T> list, int index) {
        check(index >= 0 && index < list.size(), new IndexOutOfBoundsException());
        return list.get(index);
    }

    private static void range(int value, int least, int most) {
        check(least <= value && value <= most, new IllegalArgumentException());
    }

    int room(int kind, int limit) {
        range(kind, 0, 2);
        range(limit, 1, 60);
        check(rooms.size() < 10, new IllegalStateException());
        Room room = new Room();
        room.kind = kind;
        room.limit = limit;
        rooms.add(room);
        return rooms.size() - 1;
    }

    int link(int kind, int from, int to, int steps, int rate) {
        Link link = new Link();
        link.from = at(rooms, from);
        link.to = at(rooms, to);
        check(from != to, new IllegalArgumentException());
        range(kind, 0, 4);
        range(steps, 1, 5);
        range(rate, 0, 9);
        check(links.size() < 14, new IllegalStateException());
        link.kind = kind;
        link.steps = steps;
        link.rate = rate;
        links.add(link);
        return links.size() - 1;
    }

    int close(int number, boolean is) {
        Link link = at(links, number);
        int was = link.closed ? 1 : 0;
        link.closed = is;
        return was;
    }

    int announce() {
        int closed = 0;
        for (Link link : links) {
            link.announced = link.closed;
            closed += link.closed ? 1 : 0;
        }
        return closed;
    }

    int turn(int number) {
        Link link = at(links, number);
        check(link.kind == 3, new IllegalArgumentException());
        link.turned = !link.turned;
        return link.turned ? 1 : 0;
    }

    int stop(int number, boolean is) {
        Link link = at(links, number);
        check(link.kind == 3, new IllegalArgumentException());
        int was = link.stopped ? 1 : 0;
        link.stopped = is;
        return was;
    }

    int meter(int number, int rate) {
        Link link = at(links, number);
        range(rate, 0, 9);
        int was = link.rate;
        link.rate = rate;
        return was;
    }

    int enter(int street, int goal, boolean chair, boolean knows, int group) {
        Room here = at(rooms, street);
        Room there = at(rooms, goal);
        check(here.kind == 0 && there.kind != 1, new IllegalArgumentException());
        range(group, -1, 9);
        check(persons.size() < 120, new IllegalStateException());
        Person person = comes(here, there);
        person.chair = chair;
        person.knows = knows;
        person.group = group;
        person.wants = there.kind == 2 && !ordered;
        return person.number;
    }

    private Person comes(Room here, Room there) {
        Person person = new Person();
        person.number = persons.size();
        person.room = here;
        person.goal = there;
        person.came = second;
        person.group = -1;
        persons.add(person);
        here.came++;
        outIfThere(person);
        return person;
    }

    private void outIfThere(Person person) {
        if (person.state == 0 && person.goal.kind == 0 && person.room == person.goal) {
            person.state = 3;
            person.room.left++;
        }
    }

    int train(int platform, int alight, int street, int space, int stays) {
        Room there = at(rooms, platform);
        Room out = at(rooms, street);
        check(there.kind == 2 && out.kind == 0, new IllegalArgumentException());
        range(alight, 0, 20);
        range(space, 0, 99);
        range(stays, 1, 9);
        check(trains.size() < 12, new IllegalStateException());
        for (Train other : trains) {
            check(other.platform != there || other.remains == 0, new IllegalStateException());
        }
        Train train = new Train();
        train.platform = there;
        train.space = space;
        train.remains = stays;
        while (train.alighted < alight && persons.size() < 120 && holdsMore(there, 1)) {
            comes(there, out);
            train.alighted++;
        }
        trains.add(train);
        return trains.size() - 1;
    }

    private int count(Room room, int state) {
        return (int) persons.stream().filter(p -> p.state == state && p.room == room).count();
    }

    private boolean holdsMore(Room room, int more) {
        return room.kind == 0 || count(room, 0) + count(room, 1) + more <= room.limit;
    }

    int clear() {
        ordered = true;
        int others = 0;
        for (Person person : persons) {
            person.wants = false;
            if (person.state > 1) {
                continue;
            }
            Room best = null;
            int least = Integer.MAX_VALUE;
            for (Room room : rooms) {
                int distance = room.kind == 0 ? distance(person, person.room, room) : -1;
                if (distance >= 0 && distance < least) {
                    best = room;
                    least = distance;
                }
            }
            if (best != null && best != person.goal) {
                person.goal = best;
                others++;
            }
            outIfThere(person);
        }
        return others;
    }

    private boolean canGo(Person person, Link link, Room from) {
        if (person.chair && (link.kind == 1 || link.kind == 3)) {
            return false;
        }
        if (person.knows ? link.closed : link.announced) {
            return false;
        }
        boolean forth = from == link.from;
        boolean back = from == link.to;
        switch (link.kind) {
            case 3:
                return link.stopped ? forth || back : link.turned ? back : forth;
            case 4:
                return forth || ordered && back;
            default:
                return forth || back;
        }
    }

    /** By waves: the rooms from which the goal is reached in exactly so many steps. */
    private int distance(Person person, Room here, Room goal) {
        List<List<Room>> waves = new ArrayList<>();
        for (int steps = 0; steps <= 60; steps++) {
            List<Room> wave = new ArrayList<>();
            if (steps == 0) {
                wave.add(goal);
            }
            for (Link link : links) {
                if (link.steps > steps) {
                    continue;
                }
                for (Room behind : waves.get(steps - link.steps)) {
                    if ((link.from == behind || link.to == behind) && canGo(person, link, link.behind(behind))) {
                        wave.add(link.behind(behind));
                    }
                }
            }
            if (wave.contains(here)) {
                return steps;
            }
            waves.add(wave.stream().distinct().toList());
        }
        return -1;
    }

    private Link next(Person person) {
        if (person.state != 0 || person.room == person.goal) {
            return null;
        }
        int distance = distance(person, person.room, person.goal);
        for (Link link : links) {
            if (distance >= 0 && canGo(person, link, person.room)) {
                int rest = distance(person, link.behind(person.room), person.goal);
                if (rest >= 0 && rest + link.steps == distance) {
                    return link;
                }
            }
        }
        return null;
    }

    int pass(int seconds) {
        range(seconds, 1, 60);
        for (int i = 0; i < seconds; i++) {
            second();
        }
        return second;
    }

    private void second() {
        second++;
        for (Person person : persons) {
            if (person.state == 1 && person.came == second) {
                person.state = 0;
                person.room.came++;
                outIfThere(person);
            }
        }
        for (Train train : trains) {
            if (train.remains > 0) {
                serve(train);
            }
        }
        for (Person person : persons) {
            person.next = next(person);
            if (person.next != null && person.next.closed) {
                check(!person.knows, new UnsupportedOperationException());
                person.knows = true;
                person.next = null;
            }
        }
        for (Link link : links) {
            if (!link.closed) {
                flow(link);
            }
        }
        for (Room room : rooms) {
            if (room.kind != 0) {
                int waiting = count(room, 0);
                if (waiting * 10 >= room.limit * 9) {
                    room.alarm = true;
                } else if (waiting * 10 <= room.limit * 7) {
                    room.alarm = false;
                }
            }
        }
    }

    private List<Person> boarding(Train train) {
        return persons.stream()
                .filter(p -> p.state == 0 && p.wants && p.room == train.platform && p.goal == train.platform)
                .sorted(Comparator.comparingInt((Person p) -> p.came).thenComparingInt(p -> p.number))
                .toList();
    }

    private void serve(Train train) {
        for (Person person : boarding(train).stream().limit(Math.min(4, train.space - train.aboard)).toList()) {
            person.state = 2;
            person.room.left++;
            train.aboard++;
        }
        if (train.remains > 1) {
            train.remains--;
        } else if (train.aboard == train.space || boarding(train).isEmpty() || train.longer == 3) {
            train.remains = 0;
        } else {
            train.longer++;
        }
    }

    private void flow(Link link) {
        List<Person> line = persons.stream().filter(p -> p.next == link)
                .sorted(Comparator.comparing((Person p) -> link.kind == 2 && !p.chair)
                        .thenComparingInt(p -> p.came).thenComparingInt(p -> p.number))
                .toList();
        int begun = 0;
        for (Person person : line) {
            if (person.state != 0) {
                continue;
            }
            Room here = person.room;
            List<Person> party = person.group < 0 ? List.of(person)
                    : persons.stream().filter(p -> p.group == person.group && p.state < 2).toList();
            boolean together = party.stream().allMatch(p -> p.state == 0 && p.room == here && p.next == link);
            boolean rate = begun == 0 ? link.effectiveRate() > 0 : begun + party.size() <= link.effectiveRate();
            if (together && rate && holdsMore(link.behind(here), party.size())) {
                for (Person one : party) {
                    one.state = 1;
                    one.came = second + link.steps;
                    one.room = link.behind(here);
                    begun++;
                    here.left++;
                    if (here == link.from) {
                        link.forth++;
                    } else {
                        link.back++;
                    }
                }
            }
        }
    }

    int now() {
        return second;
    }

    int ofRoom(int number, int what) {
        Room room = at(rooms, number);
        range(what, 0, 4);
        int[] all = {count(room, 0), count(room, 1), room.alarm ? 1 : 0, room.came, room.left};
        return all[what];
    }

    int ofLink(int number, int what) {
        Link link = at(links, number);
        range(what, 0, 4);
        int waiting = what == 3 ? (int) persons.stream().filter(p -> next(p) == link).count() : 0;
        int[] all = {link.closed ? 1 : 0, link.forth, link.back, waiting, link.effectiveRate()};
        return all[what];
    }

    int person(int number, int what) {
        Person person = at(persons, number);
        range(what, 0, 6);
        int next = what == 3 ? links.indexOf(next(person)) : 0;
        int[] all = {person.state, rooms.indexOf(person.room), rooms.indexOf(person.goal), next,
            person.knows ? 1 : 0, person.wants ? 1 : 0, person.came};
        return all[what];
    }

    int ofTrain(int number, int what) {
        Train train = at(trains, number);
        range(what, 0, 3);
        int[] all = {train.aboard, train.alighted, train.remains > 0 ? 1 : 0, train.remains};
        return all[what];
    }

    int foretell(int number, int seconds) {
        at(rooms, number);
        range(seconds, 1, 60);
        PlainStation copy = copy();
        copy.pass(seconds);
        return copy.ofRoom(number, 0);
    }

    int clears() {
        PlainStation copy = copy();
        copy.clear();
        for (int passed = 0; passed <= 100; passed++) {
            if (copy.persons.stream().noneMatch(p -> p.state < 2)) {
                return passed;
            }
            copy.second();
        }
        return -1;
    }

    int alone(int number) {
        Person person = at(persons, number);
        return distance(person, person.room, person.goal);
    }

    int kindOf(int room) {
        return rooms.get(room).kind;
    }

    int rooms() {
        return rooms.size();
    }

    int links() {
        return links.size();
    }

    int persons() {
        return persons.size();
    }

    int trains() {
        return trains.size();
    }

    private PlainStation copy() {
        PlainStation copy = new PlainStation();
        copy.second = second;
        copy.ordered = ordered;
        for (Room room : rooms) {
            Room it = copy.rooms.get(copy.room(room.kind, room.limit));
            it.came = room.came;
            it.left = room.left;
            it.alarm = room.alarm;
        }
        for (Link link : links) {
            Link it = copy.links.get(copy.link(link.kind, rooms.indexOf(link.from), rooms.indexOf(link.to),
                    link.steps, link.rate));
            it.closed = link.closed;
            it.announced = link.announced;
            it.turned = link.turned;
            it.stopped = link.stopped;
            it.forth = link.forth;
            it.back = link.back;
        }
        for (Person person : persons) {
            Person it = new Person();
            it.number = person.number;
            it.state = person.state;
            it.room = copy.rooms.get(rooms.indexOf(person.room));
            it.goal = copy.rooms.get(rooms.indexOf(person.goal));
            it.chair = person.chair;
            it.knows = person.knows;
            it.wants = person.wants;
            it.group = person.group;
            it.came = person.came;
            copy.persons.add(it);
        }
        for (Train train : trains) {
            Train it = new Train();
            it.platform = copy.rooms.get(rooms.indexOf(train.platform));
            it.aboard = train.aboard;
            it.alighted = train.alighted;
            it.space = train.space;
            it.remains = train.remains;
            it.longer = train.longer;
            copy.trains.add(it);
        }
        return copy;
    }
}
