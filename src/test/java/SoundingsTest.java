/** Promises 11 and 18, and the soundings and the told loss of promise 17. */
public final class SoundingsTest {
    private static final Answers ANSWERS = new Answers();

    public static void main(String[] args) {
        soundAnswersTheWater();
        threeAreKept();
        everyTankKeepsItsOwn();
        soundingRefusesWrongInputs();
        lossIsToldByTheLatestTwo();
        pumpedWaterHidesTheLoss();
        levellingHidesTheLossOfBothTanks();
        ANSWERS.end();
    }

    private static void due(String call, long got, long want) {
        ANSWERS.due(call, got, want);
    }

    private static void soundAnswersTheWater() {
        BargeBallast x = new BargeBallast();
        due("sound(-1)", x.sound(-1), -1001);
        due("sound(8)", x.sound(8), -1001);
        due("history", x.count(19), 0);
        due("sound(7)", x.sound(7), 20);
        due("history", x.count(19), 1);
        due("kept of 7", x.tank(7, 4), 1);
        due("kept of 6", x.tank(6, 4), 0);
        due("minute", x.sounding(7, 0, true), 0);
        due("water", x.sounding(7, 0, false), 20);
        due("no former one", x.sounding(7, 1, false), -1005);
        due("other tank", x.sounding(6, 0, false), -1005);
    }

    private static void threeAreKept() {
        BargeBallast x = new BargeBallast();
        x.leak(2, 1);
        x.leak(3, 2);
        for (int i = 0; i < 5; i++) {
            due("sound(2)", x.sound(2), 20 - i);
            due("sound(3)", x.sound(3), 20 - 2 * i);
            due("kept", x.tank(2, 4), Math.min(i + 1, 3));
            x.pass(10);
        }
        for (int back = 0; back < 3; back++) {
            due("minute of 2", x.sounding(2, back, true), 40 - 10 * back);
            due("water of 2", x.sounding(2, back, false), 16 + back);
            due("water of 3", x.sounding(3, back, false), 12 + 2 * back);
        }
        due("the fourth is not kept", x.sounding(2, 3, true), -1005);
        due("far back", x.sounding(2, Integer.MAX_VALUE, false), -1005);
    }

    private static void everyTankKeepsItsOwn() {
        BargeBallast x = new BargeBallast();
        for (int tank = 0; tank < 8; tank++) {
            Barges.openOnly(x, 0, 1 << tank);
            Barges.workText(x, "f2;c0");
        }
        for (int tank = 0; tank < 8; tank++) {
            x.leak(tank, tank + 1);
        }
        x.pass(3);
        x.load(0, 33, 1);
        for (int round = 0; round < 3; round++) {
            for (int tank = 0; tank < 8; tank++) {
                x.sound(tank);
                x.pass(1);
            }
            x.pass(2);
        }
        for (int tank = 0; tank < 8; tank++) {
            for (int back = 0; back < 3; back++) {
                int leaks = tank == 0 ? 2 - back : 3 - back;
                due("minute", x.sounding(tank, back, true), 39 - 10 * back + tank);
                due("water", x.sounding(tank, back, false), 28 - (tank + 1) * leaks);
            }
            due("kept", x.tank(tank, 4), 3);
            due("told loss", x.tank(tank, 5), tank + 1);
            due("lost", x.tank(tank, 6), 3 * (tank + 1));
        }
        due("hold(0, 0)", x.hold(0, 0), 33);
        due("hold(0, 1)", x.hold(0, 1), 1);
    }

    private static void soundingRefusesWrongInputs() {
        BargeBallast x = new BargeBallast();
        due("sounding(-1, -1)", x.sounding(-1, -1, true), -1001);
        due("sounding(8, 0)", x.sounding(8, 0, false), -1001);
        due("sounding(0, -1)", x.sounding(0, -1, false), -1002);
        due("sounding(0, min)", x.sounding(0, Integer.MIN_VALUE, true), -1002);
        due("sounding(0, 0)", x.sounding(0, 0, true), -1005);
    }

    private static void lossIsToldByTheLatestTwo() {
        BargeBallast x = new BargeBallast();
        x.leak(4, 3);
        x.sound(4);
        due("one sounding tells nothing", x.tank(4, 5), -1005);
        x.sound(4);
        due("nothing lost", x.tank(4, 5), 0);
        x.pass(20);
        due("not before it is sounded", x.tank(4, 5), 0);
        x.sound(4);
        due("two leaks", x.tank(4, 5), 6);
        x.pass(10);
        x.sound(4);
        due("one leak", x.tank(4, 5), 3);
        due("lost in all", x.tank(4, 6), 9);
        due("other tank", x.tank(5, 5), -1005);
    }

    private static void pumpedWaterHidesTheLoss() {
        BargeBallast x = new BargeBallast();
        Barges.openOnly(x, 0, 3);
        x.set(0, 1);
        x.sound(0);
        x.sound(1);
        Barges.workText(x, "f1;e1");
        due("as much in as out of 0", x.tank(0, 0), 20);
        x.sound(0);
        x.sound(1);
        due("not told", x.tank(0, 5), -1005);
        due("told of 1, into which nothing went", x.tank(1, 5), 0);
        x.leak(0, 2);
        x.pass(8);
        x.sound(0);
        due("told, as the pump moved nothing since", x.tank(0, 5), 2);
        Barges.workText(x, "f2");
        due("pumped behind the latest: still told", x.tank(0, 5), 2);
        x.sound(0);
        due("not told", x.tank(0, 5), -1005);
        x.sound(0);
        due("told again", x.tank(0, 5), 0);
        Barges.workText(x, "e9;e9;e9;e9;e9");
        x.sound(0);
        due("emptied: not told", x.tank(0, 5), -1005);
        x.sound(0);
        Barges.workText(x, "f1;c0");
        x.sound(1);
        x.sound(0);
        due("filled: not told", x.tank(0, 5), -1005);
    }

    private static void levellingHidesTheLossOfBothTanks() {
        BargeBallast x = new BargeBallast();
        Barges.openOnly(x, 0, 1);
        Barges.workText(x, "f2;c0");
        Barges.openOnly(x, 0, 7);
        x.set(0, 1);
        for (int tank = 0; tank < 3; tank++) {
            x.sound(tank);
        }
        Barges.workText(x, "l1");
        for (int tank = 0; tank < 3; tank++) {
            x.sound(tank);
        }
        due("the tank that gave", x.tank(0, 5), -1005);
        due("the tank that took", x.tank(1, 5), -1005);
        due("the open tank that did neither", x.tank(2, 5), 0);
    }
}
