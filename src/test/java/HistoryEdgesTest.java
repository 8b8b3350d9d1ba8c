import java.util.function.ToIntFunction;

/** The term HISTORY, and promises 14 to 16: a test for each sentence with an edge. */
public final class HistoryEdgesTest {
    private static final int BAD_VALUE = -1002;
    private static final int NONE = -1005;

    private static final Answers ANSWERS = new Answers();
    private static final Refusals REFUSALS = new Refusals(ANSWERS);

    public static void main(String[] args) {
        history();
        acts();
        snapshot();
        states();
        ANSWERS.end();
    }

    private static void said(String sentence, Runnable test) {
        ANSWERS.sentence(sentence, test);
    }

    private static void due(String call, long got, long want) {
        ANSWERS.due(call, got, want);
    }

    private static void same(String what, String got, String want) {
        ANSWERS.isTrue(what + ": " + got + " due is " + want, got.equals(want));
    }

    private static void history() {
        said("A history of at most 4 states is kept", HistoryEdgesTest::fourStates);
        said("when one more is recorded, the oldest one is dropped",
                HistoryEdgesTest::oldestIsDropped);
        said("undo() removes and restores the latest one", HistoryEdgesTest::latestComesBack);
        said("undo returns the number of states that are left", HistoryEdgesTest::statesLeft);
        said("undo: NONE if the history is empty", HistoryEdgesTest::emptyHistory);
        said("undo is no act", HistoryEdgesTest::undoIsNoAct);
    }

    private static void acts() {
        said("Each act records the state that was before it", HistoryEdgesTest::eachActRecords);
        said("an act that is recorded into a full history", HistoryEdgesTest::actsInAFullHistory);
        said("no act: type, clearText, keep, and what is told", HistoryEdgesTest::noActs);
        said("an act that changes little is an act", HistoryEdgesTest::actsThatChangeLittle);
        said("returns no error and not NONE: an answer below 0 is none of them",
                HistoryEdgesTest::answersBelowZero);
    }

    private static void snapshot() {
        said("There is one snapshot, empty at first", HistoryEdgesTest::emptySnapshot);
        said("keep: in place of the one that was", HistoryEdgesTest::keptInItsPlace);
        said("keep returns the minutes so far", HistoryEdgesTest::keepTellsTheMinutes);
        said("the snapshot, which stays", HistoryEdgesTest::snapshotStays);
        said("restore returns the minutes so far, as they are then",
                HistoryEdgesTest::restoreTellsTheMinutes);
        said("restore is an act", HistoryEdgesTest::restoreIsAnAct);
    }

    private static void states() {
        said("A state is everything: undo", HistoryEdgesTest::undoBringsBackAll);
        said("A state is everything: restore", HistoryEdgesTest::restoreBringsBackAll);
        said("A state is everything: the minute that leaks", HistoryEdgesTest::minuteComesBack);
        said("A state is everything: what the pump moved", HistoryEdgesTest::pumpedComesBack);
        said("but the text", HistoryEdgesTest::textIsNoState);
        said("the history", HistoryEdgesTest::historyIsNoState);
        said("and the snapshot", HistoryEdgesTest::snapshotIsNoState);
    }

    private static BargeBallast passed(int times) {
        BargeBallast x = new BargeBallast();
        for (int i = 0; i < times; i++) {
            x.pass(1);
        }
        return x;
    }

    private static void fourStates() {
        for (int times = 0; times <= 9; times++) {
            due("states behind " + times, passed(times).count(19), Math.min(times, 4));
        }
    }

    private static void oldestIsDropped() {
        for (int times = 4; times <= 9; times++) {
            BargeBallast x = passed(times);
            for (int undone = 1; undone <= 4; undone++) {
                due("undo", x.undo(), 4 - undone);
                due("minutes", x.count(7), times - undone);
            }
            due("the oldest is gone", x.undo(), NONE);
            due("minutes", x.count(7), times - 4);
        }
    }

    private static void latestComesBack() {
        BargeBallast x = new BargeBallast();
        x.leak(0, 1);
        x.leak(0, 2);
        x.leak(0, 3);
        x.undo();
        due("the latest", x.tank(0, 1), 2);
        x.leak(0, 9);
        due("recorded behind the others", x.count(19), 3);
        x.undo();
        due("the latest", x.tank(0, 1), 2);
        x.undo();
        due("the one before", x.tank(0, 1), 1);
        x.undo();
        due("the first", x.tank(0, 1), 0);
    }

    private static void statesLeft() {
        for (int times = 1; times <= 4; times++) {
            BargeBallast x = passed(times);
            for (int left = times - 1; left >= 0; left--) {
                due("undo", x.undo(), left);
                due("count(19)", x.count(19), left);
            }
        }
    }

    private static BargeBallast undone() {
        BargeBallast x = Barges.lived();
        for (int i = 0; i < 4; i++) {
            x.undo();
        }
        return x;
    }

    private static void emptyHistory() {
        REFUSALS.due("of a new one", BargeBallast::new, BargeBallast::undo, NONE);
        due("all undone", undone().count(19), 0);
        REFUSALS.due("when all is undone", HistoryEdgesTest::undone, BargeBallast::undo, NONE);
        BargeBallast x = undone();
        x.undo();
        x.undo();
        x.pass(1);
        due("then one act", x.count(19), 1);
        due("undo", x.undo(), 0);
    }

    private static void undoIsNoAct() {
        BargeBallast x = passed(3);
        due("undo", x.undo(), 2);
        due("undo", x.undo(), 1);
        due("minutes", x.count(7), 1);
    }

    /** A barge in which every act can be done, and changes the state. */
    private static BargeBallast ready() {
        BargeBallast x = Barges.lived();
        x.pass(1);
        return x;
    }

    private static void eachActRecords() {
        for (int number = 0; number < Barges.ACTS; number++) {
            BargeBallast x = ready();
            x.undo();
            due("before the act " + number, x.count(19), 3);
            Barges.act(x, number);
            due("the act " + number, x.count(19), 4);
            due("undo of the act " + number, x.undo(), 3);
        }
    }

    private static void actsInAFullHistory() {
        for (int number = 0; number < Barges.ACTS; number++) {
            BargeBallast x = ready();
            due("before the act " + number, x.count(19), 4);
            Barges.act(x, number);
            due("the act " + number, x.count(19), 4);
            x.undo();
            same("undone", Barges.toldState(x), Barges.toldState(ready()));
            due("the oldest is dropped", x.count(19), 3);
        }
    }

    private static void noActs() {
        BargeBallast x = passed(2);
        x.type('o');
        x.clearText();
        x.type('o');
        x.keep();
        x.tank(0, 0);
        x.sounding(0, 0, true);
        x.hold(0, 0);
        x.group(0, 0);
        x.waiting(0, 2);
        x.trimMoment(50);
        x.upright(100, 0);
        for (int what = 0; what <= 20; what++) {
            x.count(what);
        }
        due("states", x.count(19), 2);
    }

    private static void actsThatChangeLittle() {
        BargeBallast x = new BargeBallast();
        x.order(1, 0);
        x.order(1, 0);
        due("work, all refused", x.work(1), 1);
        due("states", x.count(19), 3);
        BargeBallast y = new BargeBallast();
        y.keep();
        y.restore();
        due("restore of the same state", y.count(19), 1);
        y.sound(0);
        y.sound(0);
        due("sound of the same water", y.count(19), 3);
        y.load(0, 0, 1);
        due("the shift of no load", y.count(19), 4);
        y.undo();
        due("undone", y.hold(0, 1), 0);
    }

    private static void answersBelowZero() {
        BargeBallast x = new BargeBallast();
        x.load(0, 240, -1);
        due("pass", x.pass(1), -3);
        due("states", x.count(19), 2);
        due("undo", x.undo(), 1);
        due("minutes", x.count(7), 0);
    }

    private static void emptySnapshot() {
        REFUSALS.due("of a new one", BargeBallast::new, BargeBallast::restore, NONE);
        BargeBallast x = passed(3);
        x.undo();
        due("undo is no snapshot", x.restore(), NONE);
        x.keep();
        due("then one", x.restore(), 2);
    }

    private static void keptInItsPlace() {
        BargeBallast x = passed(1);
        x.keep();
        x.pass(4);
        due("keep", x.keep(), 5);
        x.pass(10);
        due("restore", x.restore(), 5);
        x.undo();
        x.undo();
        x.undo();
        due("minutes", x.count(7), 1);
        due("restore", x.restore(), 5);
    }

    private static void keepTellsTheMinutes() {
        BargeBallast x = new BargeBallast();
        due("at once", x.keep(), 0);
        x.pass(200);
        due("keep", x.keep(), 200);
        x.undo();
        due("keep", x.keep(), 0);
        Barges.workText(x, "o0;f1");
        due("keep", x.keep(), 1);
    }

    private static void snapshotStays() {
        BargeBallast x = Barges.lived();
        x.keep();
        String kept = Barges.toldState(Barges.lived());
        for (int i = 0; i < 2; i++) {
            x.pass(30);
            x.work(12);
            x.sound(1);
            x.restore();
        }
        same("restored twice", Barges.toldState(x), kept);
    }

    private static void restoreTellsTheMinutes() {
        BargeBallast x = passed(7);
        x.keep();
        x.pass(100);
        due("fewer", x.restore(), 7);
        BargeBallast y = new BargeBallast();
        y.pass(90);
        y.keep();
        y.undo();
        due("more", y.restore(), 90);
        due("count(7)", y.count(7), 90);
        BargeBallast z = new BargeBallast();
        z.keep();
        z.pass(1);
        due("none", z.restore(), 0);
    }

    private static void restoreIsAnAct() {
        BargeBallast x = new BargeBallast();
        x.pass(3);
        x.keep();
        x.pass(5);
        x.restore();
        due("states", x.count(19), 3);
        due("undo", x.undo(), 2);
        due("minutes", x.count(7), 8);
        due("the snapshot is there still", x.restore(), 3);
    }

    private static void undoBringsBackAll() {
        for (int number = 0; number < Barges.ACTS; number++) {
            int now = number;
            BargeBallast x = ready();
            Barges.act(x, number);
            String changed = Barges.toldState(x);
            ANSWERS.isTrue("the act " + number + " changes the state",
                    !changed.equals(Barges.toldState(ready())));
            broughtBack("undo of the act " + number, y -> {
                Barges.act(y, now);
                return y.undo();
            });
        }
    }

    private static void restoreBringsBackAll() {
        for (int number = 0; number < Barges.ACTS - 1; number++) {
            int now = number;
            broughtBack("restore behind the act " + number, y -> {
                y.keep();
                Barges.act(y, now);
                return y.restore();
            });
        }
    }

    /** What is told, and what comes later, is as in a barge that was never changed. */
    private static void broughtBack(String what, ToIntFunction<BargeBallast> thereAndBack) {
        BargeBallast x = ready();
        thereAndBack.applyAsInt(x);
        same(what, Barges.toldState(x), Barges.toldState(ready()));
        x = ready();
        thereAndBack.applyAsInt(x);
        same(what + ", later", later(x), later(ready()));
    }

    private static String later(BargeBallast x) {
        x.work(3);
        x.pass(11);
        for (int tank = 0; tank < 8; tank++) {
            x.sound(tank);
        }
        x.work(1);
        return Barges.toldState(x);
    }

    private static void minuteComesBack() {
        BargeBallast x = new BargeBallast();
        x.leak(0, 1);
        x.pass(9);
        x.keep();
        x.pass(5);
        x.undo();
        x.pass(1);
        due("the minute 10 behind undo", x.tank(0, 0), 19);
        x.restore();
        due("the minute 9 behind restore", x.tank(0, 0), 20);
        due("lost", x.tank(0, 6), 0);
        x.pass(1);
        due("the minute 10 behind restore", x.tank(0, 0), 19);
    }

    private static void pumpedComesBack() {
        BargeBallast x = Barges.alone(0, 1);
        x.sound(0);
        Barges.type(x, "f1;e1");
        x.orderAll();
        x.keep();
        x.work(12);
        x.undo();
        x.sound(0);
        due("what was pumped is undone", x.tank(0, 5), 0);
        x.undo();
        x.work(12);
        x.restore();
        x.sound(0);
        due("what was pumped is behind the snapshot", x.tank(0, 5), 0);
        x.undo();
        x.work(12);
        x.keep();
        x.undo();
        x.restore();
        x.sound(0);
        due("what was pumped is in the snapshot", x.tank(0, 5), NONE);
    }

    private static void textIsNoState() {
        BargeBallast x = new BargeBallast();
        Barges.type(x, "o1");
        x.pass(1);
        x.keep();
        x.type(';');
        x.type('c');
        x.undo();
        due("undo leaves the text", x.count(20), 4);
        x.restore();
        due("restore leaves the text", x.count(20), 4);
        x.type('1');
        due("orderAll", x.orderAll(), 2);
        x.clearText();
        x.restore();
        due("restore brings no text back", x.count(20), 0);
        x.undo();
        due("undo brings no text back", x.count(20), 0);
    }

    private static void historyIsNoState() {
        BargeBallast x = passed(2);
        x.keep();
        x.pass(1);
        x.restore();
        due("restore records into the history that is", x.count(19), 4);
        x.undo();
        x.undo();
        x.undo();
        x.restore();
        due("restore brings no history back", x.count(19), 2);
        due("undo", x.undo(), 1);
        due("minutes", x.count(7), 1);
    }

    private static void snapshotIsNoState() {
        BargeBallast x = new BargeBallast();
        x.pass(2);
        x.keep();
        x.undo();
        due("undo leaves the snapshot", x.restore(), 2);
        x.pass(3);
        x.keep();
        x.undo();
        due("undo brings no snapshot back", x.restore(), 5);
        due("a wrong call leaves it", x.pass(0), BAD_VALUE);
        due("restore", x.restore(), 5);
    }
}
