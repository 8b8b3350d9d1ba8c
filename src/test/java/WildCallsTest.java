/** No call throws or fails to end, whatever its arguments and however many calls went before. */
public final class WildCallsTest {
    private static final int[] WILD = {Integer.MIN_VALUE, Integer.MIN_VALUE + 1, -2001, -1005, -9, -1,
        0, 1, 2, 3, 4, 5, 7, 8, 9, 12, 60, 61, 100, 255, 300, 65535, Integer.MAX_VALUE - 1,
        Integer.MAX_VALUE};

    private static final Answers ANSWERS = new Answers();

    public static void main(String[] args) {
        BargeBallast x = new BargeBallast();
        for (int round = 0; round < 3; round++) {
            for (int a : WILD) {
                for (int b : WILD) {
                    callAll(x, a, b);
                }
            }
        }
        ANSWERS.isTrue("the barge still weighs what it can", x.count(0) >= 400 && x.count(0) <= 2100);
        ANSWERS.end();
    }

    private static void callAll(BargeBallast x, int a, int b) {
        for (int c : WILD) {
            x.load(a, b, c);
        }
        x.leak(a, b);
        x.setGroup(a, b);
        x.set(a, b);
        x.order(a, b);
        x.type((char) a);
        x.type((char) ('a' + Math.floorMod(b, 16)));
        x.orderAll();
        x.work(a);
        x.strike(b);
        x.pass(a);
        x.sound(a);
        x.keep();
        x.undo();
        x.restore();
        x.tank(a, b);
        x.sounding(a, b, true);
        x.sounding(a, b, false);
        x.hold(a, b);
        x.group(a, b);
        x.waiting(a, b);
        x.trimMoment(a);
        x.upright(a, b);
        x.count(a);
        if (a == 0) {
            x.clearText();
        }
        ANSWERS.isTrue("water of tank 0", x.tank(0, 0) >= 0 && x.tank(0, 0) <= 100);
    }
}
