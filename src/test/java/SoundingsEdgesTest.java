/** The term SOUNDINGS, and promises 11, 17 and 18: a test for each sentence with an edge. */
public final class SoundingsEdgesTest {
    private static final int UNKNOWN = -1001;
    private static final int BAD_VALUE = -1002;
    private static final int NONE = -1005;

    private static final Answers ANSWERS = new Answers();
    private static final Refusals REFUSALS = new Refusals(ANSWERS);

    public static void main(String[] args) {
        keeping();
        telling();
        losses();
        ANSWERS.end();
    }

    private static void said(String sentence, Runnable test) {
        ANSWERS.sentence(sentence, test);
    }

    private static void due(String call, long got, long want) {
        ANSWERS.due(call, got, want);
    }

    private static void keeping() {
        said("To sound a tank keeps the minute and its water", SoundingsEdgesTest::keepsBoth);
        said("To sound a tank keeps both of it, and changes nothing else",
                SoundingsEdgesTest::keepsNothingElse);
        said("sound returns its water", SoundingsEdgesTest::soundTellsTheWater);
        said("the latest 3 soundings are kept", SoundingsEdgesTest::theOldestIsDropped);
        said("the latest 3 soundings of each tank are kept", SoundingsEdgesTest::ofEachTank);
        said("soundings that are kept (how many)", SoundingsEdgesTest::howMany);
    }

    private static void telling() {
        said("back: 0 for the latest sounding that is kept, 1 for the one before",
                SoundingsEdgesTest::latestFirst);
        said("sounding: NONE if there are not so many", SoundingsEdgesTest::notSoMany);
        said("sounding: BAD_VALUE if back is negative", SoundingsEdgesTest::negativeBack);
        said("sounding: UNKNOWN; BAD_VALUE; NONE", SoundingsEdgesTest::soundingAsksInOrder);
    }

    private static void losses() {
        said("The told loss is of its latest two soundings", SoundingsEdgesTest::latestTwo);
        said("told loss: NONE if it is not told", SoundingsEdgesTest::fewerThanTwo);
        said("what the former had more than the latter", SoundingsEdgesTest::lossOfEachSize);
        said("if the pump moved no water into it between them", SoundingsEdgesTest::pumpedIn);
        said("if the pump moved no water out of it between them", SoundingsEdgesTest::pumpedOut);
        said("not even as much in as out", SoundingsEdgesTest::asMuchInAsOut);
        said("the pump moves water by levelling too", SoundingsEdgesTest::levelled);
        said("of it, and not of another tank", SoundingsEdgesTest::pumpedElsewhere);
        said("between them, and not before or behind", SoundingsEdgesTest::notBetween);
        said("a pump that runs and moves nothing", SoundingsEdgesTest::pumpThatMovesNothing);
    }

    private static void keepsBoth() {
        BargeBallast x = Barges.withWater(0, 100);
        x.sound(0);
        x.sound(1);
        due("minute", x.sounding(0, 0, true), 100);
        due("the least water", x.sounding(0, 0, false), 0);
        due("the most water", x.sounding(1, 0, false), 100);
        x.leak(1, 9);
        x.pass(10);
        due("kept as it was", x.sounding(1, 0, false), 100);
        due("kept as it was", x.sounding(1, 0, true), 100);
        x.sound(1);
        due("minute", x.sounding(1, 0, true), 110);
        due("water", x.sounding(1, 0, false), 91);
        BargeBallast y = new BargeBallast();
        y.sound(7);
        due("minute 0", y.sounding(7, 0, true), 0);
        due("water", y.sounding(7, 0, false), 20);
    }

    private static void keepsNothingElse() {
        for (int tank = 0; tank < 8; tank++) {
            BargeBallast x = Barges.lived();
            Barges.openOnly(x, 4, 255);
            Barges.workText(x, "f60");
            String[] before = toldBesideSoundings(x);
            for (int times = 0; times < 3; times++) {
                x.sound(tank);
            }
            String[] after = toldBesideSoundings(x);
            for (int part = 0; part < before.length; part++) {
                ANSWERS.isTrue("tank " + tank + ": " + after[part] + " due is " + before[part],
                        after[part].equals(before[part]));
            }
        }
    }

    private static String[] toldBesideSoundings(BargeBallast x) {
        StringBuilder counts = new StringBuilder("counts");
        for (int what = 0; what <= 18; what++) {
            counts.append(' ').append(x.count(what));
        }
        StringBuilder parts = new StringBuilder("leaks, groups, holds");
        for (int number = 0; number < 8; number++) {
            parts.append(' ').append(x.tank(number, 0)).append(' ').append(x.tank(number, 1));
            parts.append(' ').append(x.tank(number, 3)).append(' ').append(x.tank(number, 6));
            parts.append(' ').append(x.group(number, 0)).append(' ').append(x.group(number, 1));
            parts.append(' ').append(x.hold(number, 0)).append(' ').append(x.hold(number, 1));
        }
        return new String[] {counts.toString(), parts.toString()};
    }

    private static void soundTellsTheWater() {
        BargeBallast x = Barges.withWater(0, 1, 2, 3, 4, 99, 100, 21);
        int[] water = {0, 1, 2, 3, 4, 99, 100, 21};
        for (int tank = 0; tank < 8; tank++) {
            due("sound(" + tank + ")", x.sound(tank), water[tank]);
        }
    }

    /** Sounded in the minutes 0, 10, 20, ..; it loses a unit in each of them but 0. */
    private static BargeBallast sounded(int tank, int times) {
        BargeBallast x = new BargeBallast();
        x.leak(tank, 1);
        for (int i = 0; i < times; i++) {
            x.sound(tank);
            x.pass(10);
        }
        return x;
    }

    private static void theOldestIsDropped() {
        for (int times = 3; times <= 6; times++) {
            BargeBallast x = sounded(4, times);
            due("kept", x.tank(4, 4), 3);
            for (int back = 0; back < 3; back++) {
                int index = times - 1 - back;
                due("minute", x.sounding(4, back, true), 10 * index);
                due("water", x.sounding(4, back, false), 20 - index);
            }
            due("the oldest", x.sounding(4, 3, true), NONE);
        }
    }

    private static void ofEachTank() {
        BargeBallast x = new BargeBallast();
        for (int tank = 0; tank < 8; tank++) {
            x.leak(tank, tank % 4);
        }
        for (int i = 0; i < 4; i++) {
            for (int tank = 0; tank < 8; tank++) {
                if (tank + i >= 4) {
                    x.sound(tank);
                }
            }
            x.pass(10);
        }
        for (int tank = 0; tank < 8; tank++) {
            int kept = Math.min(tank, 3);
            due("kept of " + tank, x.tank(tank, 4), kept);
            for (int back = 0; back < kept; back++) {
                due("minute of " + tank, x.sounding(tank, back, true), 10 * (3 - back));
                due("water of " + tank, x.sounding(tank, back, false),
                        20 - tank % 4 * (3 - back));
            }
            due("behind the oldest of " + tank, x.sounding(tank, kept, false), NONE);
        }
    }

    private static void howMany() {
        BargeBallast x = new BargeBallast();
        int[] kept = {0, 1, 2, 3, 3, 3};
        for (int times = 0; times < kept.length; times++) {
            due("kept", x.tank(6, 4), kept[times]);
            due("kept of another", x.tank(5, 4), 0);
            x.sound(6);
        }
    }

    private static void latestFirst() {
        BargeBallast x = sounded(2, 3);
        int[][] rows = {{20, 18}, {10, 19}, {0, 20}};
        for (int back = 0; back < 3; back++) {
            due("minute", x.sounding(2, back, true), rows[back][0]);
            due("water", x.sounding(2, back, false), rows[back][1]);
        }
    }

    private static void notSoMany() {
        for (int times = 0; times <= 4; times++) {
            int now = times;
            int kept = Math.min(times, 3);
            due("the oldest", sounded(2, times).sounding(2, kept - 1, true) >= 0 ? 1 : 0,
                    times == 0 ? 0 : 1);
            for (int back : new int[] {kept, kept + 1, 3, Integer.MAX_VALUE}) {
                REFUSALS.due("minute", () -> sounded(2, now), x -> x.sounding(2, back, true),
                        NONE);
                REFUSALS.due("water", () -> sounded(2, now), x -> x.sounding(2, back, false),
                        NONE);
            }
        }
    }

    private static void negativeBack() {
        for (int wrong : new int[] {-1, -2, Integer.MIN_VALUE}) {
            REFUSALS.due("back " + wrong, Barges::lived, x -> x.sounding(1, wrong, true),
                    BAD_VALUE);
            REFUSALS.due("back " + wrong, BargeBallast::new, x -> x.sounding(1, wrong, false),
                    BAD_VALUE);
        }
    }

    private static void soundingAsksInOrder() {
        REFUSALS.due("tank and back", Barges::lived, x -> x.sounding(8, -1, true), UNKNOWN);
        REFUSALS.due("tank and not so many", Barges::lived, x -> x.sounding(-1, 3, true), UNKNOWN);
        REFUSALS.due("back of a tank that has none", Barges::lived, x -> x.sounding(7, -1, true),
                BAD_VALUE);
    }

    private static void latestTwo() {
        BargeBallast x = new BargeBallast();
        int[] leaks = {9, 5, 2, 0};
        x.sound(3);
        for (int leak : leaks) {
            x.leak(3, leak);
            x.pass(10);
            x.sound(3);
            due("behind a leak of " + leak, x.tank(3, 5), leak);
        }
    }

    private static void fewerThanTwo() {
        BargeBallast x = new BargeBallast();
        due("no sounding", x.tank(0, 5), NONE);
        x.sound(0);
        due("one sounding", x.tank(0, 5), NONE);
        due("another tank", x.tank(1, 5), NONE);
        x.sound(0);
        due("two soundings", x.tank(0, 5), 0);
        due("another tank", x.tank(1, 5), NONE);
        x.undo();
        due("one sounding again", x.tank(0, 5), NONE);
    }

    private static void lossOfEachSize() {
        int[][] rows = {{0, 10, 0}, {1, 9, 0}, {1, 10, 1}, {9, 10, 9}, {9, 20, 18}, {9, 30, 20}};
        for (int[] row : rows) {
            BargeBallast x = new BargeBallast();
            x.leak(0, row[0]);
            x.sound(0);
            x.pass(row[1]);
            x.sound(0);
            due("a leak of " + row[0] + ", minutes " + row[1], x.tank(0, 5), row[2]);
        }
        BargeBallast x = Barges.withWater(100);
        x.leak(0, 9);
        x.sound(0);
        x.pass(120);
        x.sound(0);
        due("all of 100", x.tank(0, 5), 100);
    }

    private static int toldBehind(String pumping) {
        BargeBallast x = Barges.alone(0, 1);
        x.leak(0, 3);
        x.sound(0);
        Barges.workText(x, pumping);
        Barges.passToDigit(x, 0);
        x.sound(0);
        return x.tank(0, 5);
    }

    private static void pumpedIn() {
        due("no unit in", toldBehind("c0"), 3);
        due("one unit in", toldBehind("f1"), NONE);
        due("as much in as the leak took", toldBehind("f3"), NONE);
        due("two units in", toldBehind("f2"), NONE);
    }

    private static void pumpedOut() {
        due("one unit out", toldBehind("e1"), NONE);
        due("two units out", toldBehind("e2"), NONE);
        due("nine units out", toldBehind("e9"), NONE);
    }

    private static void asMuchInAsOut() {
        due("one in, one out", toldBehind("f1;e1"), NONE);
        due("one out, one in", toldBehind("e1;f1"), NONE);
        due("three in, three out", toldBehind("f3;e3"), NONE);
        BargeBallast x = Barges.withWater(22);
        Barges.openOnly(x, 0, 3);
        x.set(0, 1);
        x.sound(0);
        x.sound(1);
        Barges.workText(x, "f1;l1;e1;e1");
        due("1: one in, one in, one out", x.tank(1, 0), 21);
        due("0: one out", x.tank(0, 0), 20);
        x.sound(1);
        due("not told", x.tank(1, 5), NONE);
    }

    private static void levelled() {
        BargeBallast x = Barges.withWater(22);
        x.set(0, 1);
        Barges.openOnly(x, 0, 3);
        x.sound(0);
        x.sound(1);
        due("l1", Barges.workText(x, "l1"), 0);
        x.sound(0);
        x.sound(1);
        due("out of 0", x.tank(0, 5), NONE);
        due("into 1", x.tank(1, 5), NONE);
    }

    private static void pumpedElsewhere() {
        BargeBallast x = Barges.withWater(20, 18, 21, 23);
        x.set(0, 1);
        x.leak(0, 2);
        Barges.openOnly(x, 0, 15);
        for (int tank = 0; tank < 4; tank++) {
            x.sound(tank);
        }
        due("into 1, out of 3, from 3 to 1", Barges.workText(x, "f1;e1;l1"), 0);
        Barges.passToDigit(x, 0);
        int[] told = {2, NONE, 0, NONE};
        for (int tank = 0; tank < 4; tank++) {
            x.sound(tank);
            due("tank " + tank, x.tank(tank, 5), told[tank]);
        }
    }

    private static void notBetween() {
        BargeBallast x = Barges.alone(0, 1);
        x.leak(0, 4);
        Barges.workText(x, "f1");
        x.sound(0);
        x.pass(10);
        x.sound(0);
        due("before them", x.tank(0, 5), 4);
        Barges.workText(x, "f1");
        due("behind them", x.tank(0, 5), 4);
        x.sound(0);
        due("between them", x.tank(0, 5), NONE);
        x.pass(10);
        x.sound(0);
        due("between the two that were before", x.tank(0, 5), 4);
    }

    private static void pumpThatMovesNothing() {
        BargeBallast x = Barges.withWater(100, 99);
        x.set(0, 1);
        Barges.openOnly(x, 0, 3);
        x.sound(0);
        x.sound(1);
        due("f3", Barges.workText(x, "f3"), 0);
        x.sound(0);
        x.sound(1);
        due("full all the time", x.tank(0, 5), 0);
        due("one unit in", x.tank(1, 5), NONE);
    }
}
