/** Promise 10 and what happens in a minute: the pump, leaks, cargo that shifts. */
public final class MinutesTest {
    private static final Answers ANSWERS = new Answers();

    public static void main(String[] args) {
        passAnswersTheList();
        fillTakesTheEmptiest();
        fillStopsAtTheDraught();
        emptyTakesTheFullest();
        levelMovesFromFullestToEmptiest();
        tanksLeakEveryTenMinutes();
        leaksTakeWhatThereIs();
        theMinutesOfOrdersCountForLeaks();
        cargoShiftsToTheLowSide();
        cargoShiftsToPort();
        listAtTheSettingShiftsNothing();
        theListIsTheOneBehindPumpAndLeaks();
        ANSWERS.end();
    }

    private static void due(String call, long got, long want) {
        ANSWERS.due(call, got, want);
    }

    private static void water(String when, BargeBallast x, int... want) {
        for (int tank = 0; tank < want.length; tank++) {
            due(when + ": water of " + tank, x.tank(tank, 0), want[tank]);
        }
    }

    private static void passAnswersTheList() {
        BargeBallast x = new BargeBallast();
        due("pass(0)", x.pass(0), -1002);
        due("pass(201)", x.pass(201), -1002);
        due("pass(-5)", x.pass(-5), -1002);
        due("no minute", x.count(7), 0);
        due("no history", x.count(19), 0);
        x.load(0, 100, -1);
        due("pass(1)", x.pass(1), -1);
        due("pass(200)", x.pass(200), -1);
        due("minutes", x.count(7), 201);
        due("history", x.count(19), 3);
        Barges.openOnly(x, 4, 254);
        due("the pump is off", x.pass(10), -1);
        due("water", x.count(6), 160);
    }

    private static void fillTakesTheEmptiest() {
        BargeBallast x = new BargeBallast();
        Barges.openOnly(x, 0, 0b10010010);
        due("f1", Barges.workText(x, "f1"), 0);
        water("4 units into 3 tanks", x, 20, 22, 20, 20, 21, 20, 20, 21);
        x.set(0, 1);
        Barges.workText(x, "f1");
        water("then the lowest of the least", x, 20, 22, 20, 20, 22, 20, 20, 21);
        due("from the river", x.count(8), 5);
        due("into the river", x.count(9), 0);
        x.set(0, 9);
        x.set(2, 200);
        Barges.workText(x, "f30");
        water("full", x, 20, 100, 20, 20, 100, 20, 20, 100);
        due("from the river", x.count(8), 240);
        due("minutes", x.count(7), 32);
    }

    private static void fillStopsAtTheDraught() {
        BargeBallast x = Barges.open();
        x.set(2, 57);
        x.set(0, 9);
        Barges.workText(x, "f10");
        due("weight", x.count(0), 579);
        due("draught", x.count(3), 57);
        due("from the river", x.count(8), 19);
        due("minutes", x.count(7), 10);
    }

    private static void emptyTakesTheFullest() {
        BargeBallast x = new BargeBallast();
        Barges.openOnly(x, 0, 0b00001000);
        x.set(0, 2);
        Barges.workText(x, "f1;c0");
        Barges.openOnly(x, 1, 0b01001001);
        Barges.workText(x, "e1");
        water("two from the fullest", x, 20, 20, 20, 20, 20, 20, 20, 20);
        Barges.workText(x, "e1");
        water("then from the lowest", x, 19, 20, 20, 19, 20, 20, 20, 20);
        due("into the river", x.count(9), 4);
        due("from the river", x.count(8), 2);
        Barges.workText(x, "e60");
        water("until they are empty", x, 0, 20, 20, 0, 20, 20, 0, 20);
        due("into the river", x.count(9), 62);
    }

    private static void levelMovesFromFullestToEmptiest() {
        BargeBallast x = new BargeBallast();
        Barges.openOnly(x, 0, 0b00100000);
        Barges.workText(x, "f2;c0");
        Barges.openOnly(x, 0, 0b00000100);
        Barges.workText(x, "f2;c0");
        Barges.openOnly(x, 1, 0b11111111);
        water("before", x, 20, 20, 28, 20, 20, 28, 20, 20);
        x.set(0, 3);
        due("l1", Barges.workText(x, "l1"), 0);
        water("2 to 0, 5 to 1, 2 to 3", x, 21, 21, 26, 21, 20, 27, 20, 20);
        due("levelled", x.count(11), 3);
        due("l60", Barges.workText(x, "l60"), 0);
        due("all water", x.count(6), 176);
        water("level", x, 22, 22, 22, 22, 22, 22, 22, 22);
        due("levelled", x.count(11), 12);
        due("from the river", x.count(8), 16);
        due("into the river", x.count(9), 0);
    }

    private static void tanksLeakEveryTenMinutes() {
        BargeBallast x = new BargeBallast();
        x.leak(3, 7);
        x.leak(6, 1);
        x.pass(9);
        due("nothing in 9 minutes", x.count(10), 0);
        x.pass(1);
        due("tank 3", x.tank(3, 0), 13);
        due("tank 6", x.tank(6, 0), 19);
        due("tank 3 lost", x.tank(3, 6), 7);
        due("tank 6 lost", x.tank(6, 6), 1);
        due("lost in all", x.count(10), 8);
        x.pass(19);
        due("one leak in 19 minutes", x.count(10), 16);
        due("a leak is no water into the river", x.count(9), 0);
        x.leak(3, 0);
        x.pass(1);
        due("mended", x.tank(3, 6), 14);
        due("tank 6 lost", x.tank(6, 6), 3);
    }

    private static void leaksTakeWhatThereIs() {
        BargeBallast x = new BargeBallast();
        x.leak(0, 9);
        x.pass(20);
        due("two are left", x.tank(0, 0), 2);
        x.pass(10);
        due("none is left", x.tank(0, 0), 0);
        due("lost", x.tank(0, 6), 20);
        x.pass(50);
        due("nothing more is lost", x.count(10), 20);
    }

    private static void theMinutesOfOrdersCountForLeaks() {
        BargeBallast x = new BargeBallast();
        x.leak(0, 5);
        x.pass(5);
        Barges.openOnly(x, 0, 1);
        x.set(0, 1);
        Barges.workText(x, "f5");
        due("filled by 5, then leaked by 5", x.tank(0, 0), 20);
        due("lost", x.tank(0, 6), 5);
        Barges.openOnly(x, 0, 1);
        Barges.workText(x, "e9;e1");
        due("emptied ahead of the leak", x.tank(0, 0), 5);
        due("minutes", x.count(7), 20);
        due("emptied", x.count(9), 10);
        x.set(0, 9);
        Barges.workText(x, "e10");
        due("what the pump took cannot leak", x.tank(0, 6), 10);
        due("emptied", x.count(9), 15);
    }

    private static void cargoShiftsToTheLowSide() {
        BargeBallast x = new BargeBallast();
        x.load(0, 300, 2);
        x.load(1, 1, -3);
        x.set(1, 2);
        due("list", x.count(2), 6);
        due("pass(1)", x.pass(1), 10);
        due("hold 0", x.hold(0, 1), 3);
        due("hold 1", x.hold(1, 1), -2);
        due("hold 2 is empty", x.hold(2, 1), 0);
        due("shifts", x.count(15), 2);
        due("pass(1)", x.pass(1), 10);
        due("hold 0 is at the side", x.hold(0, 1), 3);
        due("hold 1", x.hold(1, 1), -1);
        due("shifts", x.count(15), 3);
        x.pass(10);
        due("hold 1", x.hold(1, 1), 3);
        due("shifts", x.count(15), 7);
    }

    private static void cargoShiftsToPort() {
        BargeBallast x = new BargeBallast();
        x.load(2, 200, -1);
        x.load(0, 100, 0);
        x.set(1, 2);
        due("200 * -10 / 860", x.count(2), -2);
        due("a list of 2 shifts nothing", x.pass(5), -2);
        x.load(0, 100, -1);
        due("3000 / 860", x.count(2), -3);
        due("pass(1)", x.pass(1), -6);
        due("hold 0", x.hold(0, 1), -2);
        due("hold 2", x.hold(2, 1), -2);
        due("pass(200)", x.pass(200), -10);
        due("hold 0", x.hold(0, 1), -3);
        due("shifts", x.count(15), 4);
    }

    private static void listAtTheSettingShiftsNothing() {
        BargeBallast x = new BargeBallast();
        x.load(1, 300, 2);
        x.set(1, 6);
        due("a list of 6", x.pass(3), 6);
        due("shifts", x.count(15), 0);
        x.set(1, 5);
        due("pass(1)", x.pass(1), 10);
        due("shifts", x.count(15), 1);
    }

    private static void theListIsTheOneBehindPumpAndLeaks() {
        BargeBallast x = new BargeBallast();
        x.load(1, 300, 2);
        x.set(1, 6);
        x.leak(0, 9);
        due("6000 / 860", x.pass(9), 6);
        due("shifts", x.count(15), 0);
        due("7 by the leak, so it shifts at once", x.pass(1), 10);
        due("shifts", x.count(15), 1);
        BargeBallast y = new BargeBallast();
        y.load(1, 300, 2);
        y.set(1, 6);
        y.set(0, 9);
        Barges.openOnly(y, 0, 1);
        due("e1", Barges.workText(y, "e1"), 0);
        due("7 by the pump, so it shifts at once", y.hold(1, 1), 3);
        due("list", y.count(2), 10);
    }
}
