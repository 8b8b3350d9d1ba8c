import java.util.function.Supplier;
import java.util.function.ToIntFunction;

/** Checks that a call answers an error or NONE, and that it changes nothing. */
final class Refusals {
    private static final int UNDONE = 5;
    private static final int LOOKS = UNDONE + 5;

    private final Answers answers;

    Refusals(Answers answers) {
        this.answers = answers;
    }

    /** Every look is taken at two barges of its own: one got the call, and the other did not. */
    void due(String call, Supplier<BargeBallast> made, ToIntFunction<BargeBallast> called,
            int want) {
        answers.due(call, called.applyAsInt(made.get()), want);
        for (int look = 0; look < LOOKS; look++) {
            BargeBallast barge = made.get();
            called.applyAsInt(barge);
            String got = seen(barge, look);
            String due = seen(made.get(), look);
            answers.isTrue(call + " changes nothing: " + got + " due is " + due, got.equals(due));
        }
    }

    /** What is seen of the state, each part of the history, the snapshot, and the text. */
    private static String seen(BargeBallast barge, int look) {
        if (look <= UNDONE) {
            return undone(barge, look);
        }
        switch (look - UNDONE) {
            case 1: return "restored " + barge.restore() + ": " + Barges.toldState(barge);
            case 2: return "text of " + barge.clearText();
            case 3: return "text " + ordersOfTheText(barge);
            default: return "later " + whatComesLater(barge);
        }
    }

    private static String undone(BargeBallast barge, int times) {
        StringBuilder told = new StringBuilder("undone " + times + " times: ");
        for (int i = 0; i < times; i++) {
            told.append(barge.undo()).append(' ');
        }
        told.append(Barges.toldState(barge));
        return told.append(barge.count(19)).append(' ').append(barge.count(20)).toString();
    }

    private static String ordersOfTheText(BargeBallast barge) {
        for (int kind = 0; kind < 5; kind++) {
            barge.strike(kind);
        }
        return barge.orderAll() + ": " + Barges.toldState(barge);
    }

    /** Shows what no call tells at once, such as a pump that runs or water that was moved. */
    private static String whatComesLater(BargeBallast barge) {
        barge.pass(11);
        for (int tank = 0; tank < 8; tank++) {
            barge.sound(tank);
        }
        return Barges.toldState(barge);
    }
}
