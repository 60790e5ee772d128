import java.util.ArrayList;
import java.util.List;

/**
 * What a call that throws leaves, and what an asking call leaves: all as it was, and all that comes as it would have come.
 * Each such call is made on a station, and then all that can be asked of it is asked, at once, some seconds later, and
 * after it was ordered to clear; the answers have to be those of a station that was built alike, without that call.
 */
public final class RefusedTest {
    private static final Due DUE = new Due("RefusedTest");
    /** An object is good for 512 calls: those that build it, and so many questions. */
    private static final int QUESTIONS = 250;

    private interface Maker {
        CrushLoad make();
    }

    private interface Call {
        long on(CrushLoad x);
    }

    private enum Then {
        AT_ONCE, A_SECOND_LATER, FIVE_SECONDS_LATER, CLEARED, ANNOUNCED, OPENED, TURNED, WITH_OTHERS;

        /** What comes before the questions. */
        void on(CrushLoad x) {
            switch (this) {
                case A_SECOND_LATER:
                    x.pass(1);
                    break;
                case FIVE_SECONDS_LATER:
                    x.pass(5);
                    break;
                case CLEARED:
                    x.clear();
                    x.pass(2);
                    break;
                case ANNOUNCED:
                    x.announce();
                    x.pass(1);
                    break;
                case OPENED:
                    x.close(2, false);
                    x.pass(2);
                    break;
                case TURNED:
                    x.turn(1);
                    x.stop(1, false);
                    x.pass(2);
                    break;
                case WITH_OTHERS:
                    Due.outcome(() -> x.enter(0, 2, true, true, CrushLoad.NONE));
                    Due.outcome(() -> x.train(3, 4, 4, 3, 2));
                    Due.outcome(() -> x.room(CrushLoad.PLATFORM, 9));
                    Due.outcome(() -> x.link(CrushLoad.STAIR, 0, 2, 1, 3));
                    x.pass(1);
                    break;
                default:
            }
        }
    }

    private final String label;
    private final Maker maker;
    private final int[] counts;
    private final List<Call> questions = new ArrayList<>();
    private final List<List<String>> due = new ArrayList<>();

    /** The counts are of rooms, links, persons and trains. */
    private RefusedTest(String label, Maker maker, int... counts) {
        this.label = label;
        this.maker = maker;
        this.counts = counts;
        countsAreRight();
        addQuestions();
        for (Then then : Then.values()) {
            due.add(answers(x -> 0, then));
        }
    }

    public static void main(String[] args) {
        RefusedTest busy = new RefusedTest("busy", RefusedTest::busy, 5, 6, 16, 2);
        busy.refusedOfBusy();
        busy.refusedAsking();
        busy.asking();
        RefusedTest ordered = new RefusedTest("ordered to clear", RefusedTest::ordered, 5, 6, 17, 2);
        ordered.refusedOfBusy();
        ordered.refusedAsking();
        ordered.asking();
        RefusedTest full = new RefusedTest("full", RefusedTest::full, 10, 14, 120, 12);
        full.refusedOfFull();
        full.refusedAsking();
        full.asking();
        DUE.end();
    }

    /** Nothing is as it is in a new object: turned, stopped, metered, closed, announced, here, on the way, gone, out. */
    private static CrushLoad busy() {
        CrushLoad x = rooms();
        x.link(CrushLoad.DOOR, 0, 1, 1, 3);
        x.link(CrushLoad.MOVING, 2, 1, 2, 5);
        x.link(CrushLoad.LIFT, 1, 2, 3, 2);
        x.link(CrushLoad.STAIR, 1, 3, 1, 1);
        x.link(CrushLoad.GATE, 4, 1, 2, 2);
        x.link(CrushLoad.DOOR, 2, 4, 4, 2);
        x.turn(1);
        x.enter(0, 0, true, true, 4);
        x.train(3, 1, 0, 1, 1);
        for (int i = 0; i < 9; i++) {
            x.enter(i % 2 * 4, i % 3 == 0 ? 3 : 2, i % 4 == 1, i % 3 != 1, i % 5 == 2 ? 4 : CrushLoad.NONE);
        }
        x.close(3, true);
        x.announce();
        x.close(3, false);
        x.pass(6);
        x.close(2, true);
        x.stop(1, true);
        x.meter(4, 1);
        x.train(2, 3, 4, 6, 2);
        x.enter(4, 2, false, false, 7);
        x.enter(0, 3, false, true, 7);
        x.pass(1);
        return x;
    }

    private static CrushLoad rooms() {
        CrushLoad x = new CrushLoad();
        x.room(CrushLoad.STREET, 1);
        x.room(CrushLoad.HALL, 6);
        x.room(CrushLoad.PLATFORM, 8);
        x.room(CrushLoad.PLATFORM, 4);
        x.room(CrushLoad.STREET, 1);
        return x;
    }

    private static CrushLoad ordered() {
        CrushLoad x = busy();
        x.clear();
        x.enter(4, 2, false, false, 7);
        return x;
    }

    /** Two persons are gone or on the way, the others wait for a long time, and so does the last train. */
    private static CrushLoad full() {
        CrushLoad x = rooms();
        x.link(CrushLoad.DOOR, 0, 1, 1, 1);
        x.link(CrushLoad.MOVING, 1, 2, 2, 3);
        for (int link = 2; link < 14; link++) {
            x.link(link % 5, link % 3, 3 + link % 2, 1 + link % 5, 1 + link % 4);
        }
        for (int room = 5; room < 10; room++) {
            x.room(CrushLoad.PLATFORM, room);
        }
        for (int train = 0; train < 11; train++) {
            x.train(2, train % 2, 4, train % 3, 1);
            x.pass(1);
        }
        for (int person = x.ofRoom(2, 3); person < 120; person++) {
            x.enter(person % 2 * 4, person % 3 == 0 ? 2 : 3, person % 5 == 0, person % 2 == 0, person % 12 - 2 < 0
                    ? CrushLoad.NONE : person % 12 - 2);
        }
        x.close(2, true);
        x.train(3, 0, 0, 9, 9);
        x.pass(2);
        return x;
    }

    private void countsAreRight() {
        CrushLoad x = maker.make();
        for (int last = 1; last >= 0; last--) {
            int of = last;
            String due = last == 1 ? "an answer" : "throws.IndexOutOfBoundsException";
            DUE.same("rooms, " + label, answerOr(() -> x.ofRoom(counts[0] - of, 0)), due);
            DUE.same("links, " + label, answerOr(() -> x.ofLink(counts[1] - of, 0)), due);
            DUE.same("persons, " + label, answerOr(() -> x.person(counts[2] - of, 0)), due);
            DUE.same("trains, " + label, answerOr(() -> x.ofTrain(counts[3] - of, 0)), due);
        }
    }

    private static String answerOr(Due.Call call) {
        String outcome = Due.outcome(call);
        return outcome.contains("throws") ? outcome : "an answer";
    }

    private void addQuestions() {
        questions.add(CrushLoad::now);
        questions.add(CrushLoad::clears);
        for (int room = 0; room < counts[0]; room++) {
            ask(room, 5, (x, i, what) -> x.ofRoom(i, what));
            ask(room, 3, (x, i, what) -> x.foretell(i, 1 + 4 * what));
        }
        for (int link = 0; link < counts[1]; link++) {
            ask(link, 5, (x, i, what) -> x.ofLink(i, what));
        }
        for (int person = 0; person < counts[2]; person++) {
            ask(person, 7, (x, i, what) -> x.person(i, what));
            ask(person, 1, (x, i, what) -> x.alone(i));
        }
        for (int train = 0; train < counts[3]; train++) {
            ask(train, 4, (x, i, what) -> x.ofTrain(i, what));
        }
        // There are none behind the last ones.
        ask(counts[0], 1, (x, i, what) -> x.ofRoom(i, what));
        ask(counts[1], 1, (x, i, what) -> x.ofLink(i, what));
        ask(counts[2], 1, (x, i, what) -> x.person(i, what));
        ask(counts[3], 1, (x, i, what) -> x.ofTrain(i, what));
        // These change something, so they come last.
        questions.add(CrushLoad::announce);
        for (int link = 0; link < counts[1]; link++) {
            ask(link, 1, (x, i, what) -> x.close(i, false) ? 1 : 0);
            ask(link, 1, (x, i, what) -> x.stop(i, false) ? 1 : 0);
            ask(link, 1, (x, i, what) -> x.turn(i) ? 1 : 0);
            ask(link, 1, (x, i, what) -> x.meter(i, 3));
        }
        questions.add(CrushLoad::clear);
    }

    private interface Ask {
        long on(CrushLoad x, int index, int what);
    }

    private void ask(int index, int whats, Ask ask) {
        for (int what = 0; what < whats; what++) {
            int of = what;
            questions.add(x -> ask.on(x, index, of));
        }
    }

    private List<String> answers(Call call, Then then) {
        List<String> answers = new ArrayList<>();
        CrushLoad x = null;
        for (int i = 0; i < questions.size(); i++) {
            if (i % QUESTIONS == 0) {
                x = maker.make();
                CrushLoad on = x;
                Due.outcome(() -> call.on(on));
                then.on(x);
            }
            CrushLoad asked = x;
            Call question = questions.get(i);
            answers.add(Due.outcome(() -> question.on(asked)));
        }
        return answers;
    }

    private void changesNothing(String name, Call call) {
        for (Then then : Then.values()) {
            List<String> want = due.get(then.ordinal());
            List<String> got = answers(call, then);
            for (int i = 0; i < want.size(); i++) {
                DUE.same(name + " changes nothing (" + label + ", " + then + ", question " + i + ")", got.get(i), want.get(i));
            }
        }
    }

    private void outOfBounds(String name, Call call) {
        CrushLoad x = maker.make();
        DUE.outOfBounds(name + " (" + label + ")", () -> call.on(x));
        changesNothing(name, call);
    }

    private void wrongArgument(String name, Call call) {
        CrushLoad x = maker.make();
        DUE.wrongArgument(name + " (" + label + ")", () -> call.on(x));
        changesNothing(name, call);
    }

    private void wrongState(String name, Call call) {
        CrushLoad x = maker.make();
        DUE.wrongState(name + " (" + label + ")", () -> call.on(x));
        changesNothing(name, call);
    }

    private void refusedOfBusy() {
        wrongArgument("P2 kind 3", x -> x.room(3, 60));
        wrongArgument("P2 limit 61", x -> x.room(CrushLoad.PLATFORM, 61));
        wrongArgument("P2 limit 0", x -> x.room(CrushLoad.STREET, 0));
        outOfBounds("P3 no first room", x -> x.link(CrushLoad.DOOR, 5, 2, 1, 9));
        outOfBounds("P3 no second room", x -> x.link(CrushLoad.DOOR, 0, 5, 1, 9));
        wrongArgument("P3 both the same", x -> x.link(CrushLoad.DOOR, 2, 2, 1, 9));
        wrongArgument("P3 kind 5", x -> x.link(5, 0, 2, 1, 9));
        wrongArgument("P3 steps 6", x -> x.link(CrushLoad.DOOR, 0, 2, 6, 9));
        wrongArgument("P3 rate 10", x -> x.link(CrushLoad.DOOR, 0, 2, 1, 10));
        outOfBounds("P4 no link to close", x -> x.close(6, true) ? 1 : 0);
        outOfBounds("P4 no link to open", x -> x.close(-1, false) ? 1 : 0);
        outOfBounds("P6 no link", x -> x.turn(6) ? 1 : 0);
        outOfBounds("P7 no link", x -> x.stop(6, true) ? 1 : 0);
        int[] notMoving = {0, 2, 3, 4};
        for (int link : notMoving) {
            wrongArgument("P6 not moving " + link, x -> x.turn(link) ? 1 : 0);
            wrongArgument("P7 not moving " + link, x -> x.stop(link, true) ? 1 : 0);
            wrongArgument("P7 not moving " + link + ", to go", x -> x.stop(link, false) ? 1 : 0);
        }
        outOfBounds("P8 no link", x -> x.meter(6, 5));
        for (int link = 0; link < 6; link++) {
            int of = link;
            wrongArgument("P8 rate 10 of link " + link, x -> x.meter(of, 10));
            wrongArgument("P8 rate -1 of link " + link, x -> x.meter(of, -1));
        }
        refusedPersons();
        refusedTrains();
        wrongArgument("P12 no second", x -> x.pass(0));
        wrongArgument("P12 61 seconds", x -> x.pass(61));
        wrongArgument("P12 a second back", x -> x.pass(-1));
    }

    private void refusedPersons() {
        outOfBounds("P9 no street", x -> x.enter(5, 2, false, true, 4));
        outOfBounds("P9 no goal", x -> x.enter(0, 5, false, true, 4));
        wrongArgument("P9 from a hall", x -> x.enter(1, 2, false, true, 4));
        wrongArgument("P9 from a platform", x -> x.enter(2, 2, false, true, 4));
        wrongArgument("P9 to a hall", x -> x.enter(0, 1, false, true, 4));
        wrongArgument("P9 group 10", x -> x.enter(0, 0, false, true, 10));
        wrongArgument("P9 group -2", x -> x.enter(4, 2, true, true, -2));
    }

    private void refusedTrains() {
        outOfBounds("P10 no platform", x -> x.train(5, 9, 4, 9, 2));
        outOfBounds("P10 no street", x -> x.train(3, 9, 5, 9, 2));
        wrongArgument("P10 at a hall", x -> x.train(1, 9, 4, 9, 2));
        wrongArgument("P10 at a street", x -> x.train(0, 9, 4, 9, 2));
        wrongArgument("P10 to a platform", x -> x.train(3, 9, 2, 9, 2));
        wrongArgument("P10 to a hall", x -> x.train(3, 9, 1, 9, 2));
        wrongArgument("P10 alight 21", x -> x.train(3, 21, 4, 9, 2));
        wrongArgument("P10 space 100", x -> x.train(3, 9, 4, 100, 2));
        wrongArgument("P10 stays 10", x -> x.train(3, 9, 4, 9, 10));
        wrongArgument("P10 stays 0", x -> x.train(3, 9, 4, 9, 0));
        wrongState("P10 one is there", x -> x.train(2, 9, 4, 9, 2));
        wrongState("P10 one is there, and nobody alights", x -> x.train(2, 0, 4, 9, 9));
    }

    private void refusedOfFull() {
        for (int kind = CrushLoad.STREET; kind <= CrushLoad.PLATFORM; kind++) {
            int of = kind;
            wrongState("P2 there are 10, kind " + kind, x -> x.room(of, 60));
        }
        for (int kind = CrushLoad.DOOR; kind <= CrushLoad.GATE; kind++) {
            int of = kind;
            wrongState("P3 there are 14, kind " + kind, x -> x.link(of, 0, 2, 1, 9));
        }
        wrongState("P9 there are 120", x -> x.enter(0, 2, false, true, CrushLoad.NONE));
        wrongState("P9 there are 120, in a group", x -> x.enter(4, 3, true, false, 3));
        wrongState("P9 there are 120, to be out", x -> x.enter(4, 4, true, false, 3));
        wrongState("P10 there are 12", x -> x.train(2, 0, 0, 9, 9));
        wrongState("P10 there are 12, and 20 would alight", x -> x.train(9, 20, 0, 9, 9));
        wrongState("P10 there are 12, and one is there", x -> x.train(3, 20, 0, 9, 9));
    }

    private void refusedAsking() {
        outOfBounds("P14 no room", x -> x.ofRoom(counts[0], 0));
        wrongArgument("P14 what", x -> x.ofRoom(0, 5));
        outOfBounds("P15 no link", x -> x.ofLink(counts[1], 0));
        wrongArgument("P15 what", x -> x.ofLink(0, 5));
        outOfBounds("P16 no person", x -> x.person(counts[2], 0));
        wrongArgument("P16 what", x -> x.person(0, 7));
        outOfBounds("P17 no train", x -> x.ofTrain(counts[3], 0));
        wrongArgument("P17 what", x -> x.ofTrain(0, 4));
        outOfBounds("P18 no room", x -> x.foretell(counts[0], 60));
        wrongArgument("P18 61 seconds", x -> x.foretell(0, 61));
        wrongArgument("P18 no second", x -> x.foretell(0, 0));
        outOfBounds("P20 no person", x -> x.alone(counts[2]));
        outOfBounds("P21 no person", x -> x.aloneAnew(counts[2]));
    }

    private void asking() {
        changesNothing("P13 now", CrushLoad::now);
        for (int what = 0; what <= 6; what++) {
            int of = what;
            changesNothing("P14 to P17, what " + what, x -> what(x, of));
        }
        changesNothing("P18 the least seconds", x -> x.foretell(2, 1));
        changesNothing("P18 the most seconds", x -> x.foretell(2, 60));
        changesNothing("P19 clears", CrushLoad::clears);
        changesNothing("P20 alone", x -> x.alone(3));
        changesNothing("P21 aloneAnew", x -> x.aloneAnew(3));
    }

    private static long what(CrushLoad x, int what) {
        long sum = x.person(3, what);
        if (what <= 4) {
            sum += x.ofRoom(2, what) + x.ofLink(1, what);
        }
        return what <= 3 ? sum + x.ofTrain(0, what) : sum;
    }
}
