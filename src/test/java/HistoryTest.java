/** Promises 14 to 16: undo, keep, restore, and what acts record. */
public final class HistoryTest {
    private static final Answers ANSWERS = new Answers();

    public static void main(String[] args) {
        undoTakesBackEveryAct();
        fourStatesAreKept();
        errorsAndNoneRecordNothing();
        onlyActsAreRecorded();
        theSnapshotStays();
        restoreIsAnAct();
        undoLeavesTextAndSnapshot();
        ANSWERS.end();
    }

    private static void due(String call, long got, long want) {
        ANSWERS.due(call, got, want);
    }

    private static void same(String what, String got, String want) {
        ANSWERS.isTrue(what + ": " + got + " due is " + want, got.equals(want));
    }

    private static void undoTakesBackEveryAct() {
        for (int number = 0; number < Barges.ACTS; number++) {
            BargeBallast x = Barges.lived();
            BargeBallast other = Barges.lived();
            x.keep();
            if (number == 10) {
                x.pass(30);
                other.pass(30);
            }
            String before = Barges.toldState(x);
            due("act " + number + " is no error", Barges.act(x, number) > -1001 ? 1 : 0, 1);
            ANSWERS.isTrue("act " + number + " changes the state",
                    !before.equals(Barges.toldState(x)));
            due("undo()", x.undo(), 3);
            same("undo of act " + number, Barges.toldState(x), before);
            x.work(3);
            other.work(3);
            same("what follows is as without it", Barges.toldState(x), Barges.toldState(other));
        }
    }

    private static void fourStatesAreKept() {
        BargeBallast x = new BargeBallast();
        due("undo() of nothing", x.undo(), -1005);
        for (int minutes = 1; minutes <= 6; minutes++) {
            x.pass(minutes);
            due("count(19)", x.count(19), Math.min(minutes, 4));
        }
        int[] minutes = {15, 10, 6, 3};
        for (int i = 0; i < 4; i++) {
            due("undo()", x.undo(), 3 - i);
            due("minutes", x.count(7), minutes[i]);
            due("count(19)", x.count(19), 3 - i);
        }
        due("the oldest are dropped", x.undo(), -1005);
        due("minutes", x.count(7), 3);
        x.pass(1);
        due("recorded again", x.undo(), 0);
        due("minutes", x.count(7), 3);
        x.pass(10);
        x.pass(20);
        due("undo()", x.undo(), 1);
        x.pass(30);
        due("undo()", x.undo(), 1);
        due("undo()", x.undo(), 0);
        due("minutes", x.count(7), 3);
    }

    private static void errorsAndNoneRecordNothing() {
        BargeBallast x = new BargeBallast();
        x.set(2, 50);
        String before = Barges.toldState(x);
        x.load(9, 0, 0);
        x.load(0, 0, 0);
        x.load(0, 999, 0);
        x.leak(0, 0);
        x.leak(0, 10);
        x.leak(9, 1);
        x.setGroup(0, 3);
        x.setGroup(0, 0);
        x.set(2, 50);
        x.set(9, 9);
        x.order(9, 9);
        x.orderAll();
        x.strike(0);
        x.strike(9);
        x.work(1);
        x.work(0);
        x.pass(0);
        x.sound(8);
        x.restore();
        due("history", x.count(19), 1);
        same("state", Barges.toldState(x), before);
    }

    private static void onlyActsAreRecorded() {
        BargeBallast x = new BargeBallast();
        x.type('o');
        x.clearText();
        x.keep();
        Barges.toldState(x);
        x.trimMoment(3);
        x.upright(9, 0);
        due("history", x.count(19), 0);
        x.order(0, 0);
        x.order(0, 0);
        x.work(1);
        due("refused: still an act", x.work(1), 1);
        due("history", x.count(19), 4);
    }

    private static void theSnapshotStays() {
        BargeBallast x = new BargeBallast();
        due("no snapshot", x.restore(), -1005);
        x.pass(7);
        due("keep()", x.keep(), 7);
        String kept = Barges.toldState(x);
        x.load(0, 50, 1);
        x.pass(20);
        due("restore()", x.restore(), 7);
        same("restored", Barges.toldState(x), kept);
        x.order(2, 5);
        due("restore() again", x.restore(), 7);
        same("restored again", Barges.toldState(x), kept);
        x.pass(1);
        due("keep() in its place", x.keep(), 8);
        x.pass(1);
        due("restore()", x.restore(), 8);
        due("keep() is no act, restore() is", x.undo(), 3);
        due("minutes", x.count(7), 9);
    }

    private static void restoreIsAnAct() {
        BargeBallast x = new BargeBallast();
        x.keep();
        due("restore() of the same", x.restore(), 0);
        due("history", x.count(19), 1);
        x.pass(9);
        x.restore();
        due("undo() of restore()", x.undo(), 2);
        due("minutes", x.count(7), 9);
    }

    private static void undoLeavesTextAndSnapshot() {
        BargeBallast x = new BargeBallast();
        x.pass(5);
        x.keep();
        Barges.type(x, "o1");
        x.orderAll();
        x.undo();
        due("the text stays", x.count(20), 2);
        due("no order waits", x.count(12), 0);
        x.undo();
        due("minutes", x.count(7), 0);
        due("the snapshot stays", x.restore(), 5);
        due("the history is not of the state", x.count(19), 1);
    }
}
