/** The terms VALVES AND THE PUMP, and promise 10: a test for each sentence with an edge. */
public final class PumpEdgesTest {
    private static final int UNKNOWN = -1001;
    private static final int BAD_VALUE = -1002;
    private static final int[] OUTSIDE_GROUPS = {-1, 5, Integer.MIN_VALUE, Integer.MAX_VALUE};

    private static final Answers ANSWERS = new Answers();
    private static final Refusals REFUSALS = new Refusals(ANSWERS);

    public static void main(String[] args) {
        valves();
        rates();
        modes();
        leaks();
        cargo();
        passing();
        ANSWERS.end();
    }

    private static void said(String sentence, Runnable test) {
        ANSWERS.sentence(sentence, test);
    }

    private static void due(String call, long got, long want) {
        ANSWERS.due(call, got, want);
    }

    private static void water(String when, BargeBallast x, int... want) {
        for (int tank = 0; tank < want.length; tank++) {
            due(when + ": water of " + tank, x.tank(tank, 0), want[tank]);
        }
    }

    private static void valves() {
        said("There are 5 groups of valves, numbered from 0", PumpEdgesTest::fiveGroups);
        said("There is no such group", PumpEdgesTest::noOtherGroups);
        said("the groups 0 to 3 are the two tanks of a section, 4 all tanks, closed, at first",
                PumpEdgesTest::groupsAtFirst);
        said("A tank is open if any open group has it", PumpEdgesTest::openByAnyGroup);
    }

    private static void rates() {
        said("as many units as its rate tells: filling", PumpEdgesTest::rateOfFilling);
        said("as many units as its rate tells: emptying", PumpEdgesTest::rateOfEmptying);
        said("as many units as its rate tells: levelling", PumpEdgesTest::rateOfLevelling);
        said("one after the other", PumpEdgesTest::oneAfterTheOther);
        said("as long as possible: filling", PumpEdgesTest::fillsAsLongAsPossible);
        said("as long as possible: emptying", PumpEdgesTest::emptiesAsLongAsPossible);
        said("as long as possible: levelling", PumpEdgesTest::levelsAsLongAsPossible);
        said("in a minute, as long as possible: again in each", PumpEdgesTest::againInEachMinute);
    }

    private static void modes() {
        said("fills the open tank with the least water", PumpEdgesTest::fillsTheLeast);
        said("fills, of several the lowest number", PumpEdgesTest::fillsTheLowestNumber);
        said("fills the tank that has less than 100", PumpEdgesTest::fillsBelow100);
        said("unless the draught would be deeper than the setting 2 with this unit",
                PumpEdgesTest::fillsUpToTheDraught);
        said("empties the open tank with the most water", PumpEdgesTest::emptiesTheMost);
        said("empties, of several the lowest number", PumpEdgesTest::emptiesTheLowestNumber);
        said("empties the tank with water above 0", PumpEdgesTest::emptiesAboveZero);
        said("levels from the open tank with the most water to the one with the least",
                PumpEdgesTest::levelsMostToLeast);
        said("levels, each of several the lowest number", PumpEdgesTest::levelsTheLowestNumbers);
        said("levels if the difference is 2 or more", PumpEdgesTest::levelsADifferenceOf2);
        said("mode 0: nothing", PumpEdgesTest::offMovesNothing);
    }

    private static void leaks() {
        said("in the minute m, if m % 10 is 0", PumpEdgesTest::leaksInEveryTenthMinute);
        said("counted from 1 since the beginning", PumpEdgesTest::minutesOfOrdersCountToo);
        said("as many units as its leak, at most what it has", PumpEdgesTest::leaksWhatItHas);
        said("Then each tank loses by its leak", PumpEdgesTest::leaksBehindThePump);
        said("each tank, open or not, by a leak of its own", PumpEdgesTest::eachTankLeaks);
    }

    private static void cargo() {
        said("if the list, without a sign, is greater than the setting 1",
                PumpEdgesTest::shiftsAboveTheSetting);
        said("the list at which cargo shifts: at most 99", PumpEdgesTest::nothingShiftsAt99);
        said("each hold with a load shifts", PumpEdgesTest::holdsWithoutALoadStay);
        said("all by this one list, in one minute", PumpEdgesTest::allHoldsShiftAtOnce);
        said("shifts by 1 to the low side (to port if the list is below 0)",
                PumpEdgesTest::shiftsToTheLowSide);
        said("at most to 3", PumpEdgesTest::shiftsAtMostTo3);
        said("if the list as it is then, behind the leaks", PumpEdgesTest::listBehindTheLeaks);
        said("if the list as it is then, behind the pump", PumpEdgesTest::listBehindThePump);
    }

    private static void passing() {
        said("pass: minutes, 1 to 200", PumpEdgesTest::passRange);
        said("pass returns the list then", PumpEdgesTest::passTellsTheListThen);
        said("pass: with the pump off", PumpEdgesTest::offMovesNothing);
    }

    private static void fiveGroups() {
        for (int group = 0; group < 5; group++) {
            BargeBallast x = new BargeBallast();
            due("open", x.order(0, group), 1);
            due("close", x.order(1, group), 2);
            due("work", x.work(1), 0);
            due("group", x.group(group, 1), 1);
            due("work", x.work(1), 0);
            due("group", x.group(group, 1), 0);
            x.setGroup(group, 1);
            due("group", x.group(group, 0), 1);
        }
    }

    private static void noOtherGroups() {
        for (int wrong : OUTSIDE_GROUPS) {
            REFUSALS.due("setGroup " + wrong, Barges::lived, x -> x.setGroup(wrong, 1), UNKNOWN);
            REFUSALS.due("group " + wrong, Barges::lived, x -> x.group(wrong, 0), UNKNOWN);
        }
    }

    private static void groupsAtFirst() {
        BargeBallast x = new BargeBallast();
        int[] tanks = {0b11, 0b1100, 0b110000, 0b11000000, 0b11111111};
        for (int group = 0; group < 5; group++) {
            due("tanks", x.group(group, 0), tanks[group]);
            due("closed", x.group(group, 1), 0);
        }
        due("no tank is open", x.count(14), 0);
    }

    private static void openByAnyGroup() {
        BargeBallast x = new BargeBallast();
        x.setGroup(0, 0b10000001);
        x.setGroup(3, 0b11000000);
        due("closed groups open nothing", x.count(14), 0);
        Barges.workText(x, "o0;o3");
        due("both are open", x.count(14), 0b11000001);
        Barges.workText(x, "c0");
        due("7 by the group 3 alone", x.count(14), 0b11000000);
        due("tank 7", x.tank(7, 2), 1);
        due("tank 0", x.tank(0, 2), 0);
        Barges.workText(x, "o0;c3");
        due("7 by the group 0 alone", x.count(14), 0b10000001);
        due("tank 7", x.tank(7, 2), 1);
        due("tank 6", x.tank(6, 2), 0);
        Barges.workText(x, "c0");
        due("none is open", x.count(14), 0);
        due("tank 7", x.tank(7, 2), 0);
    }

    private static void rateOfFilling() {
        for (int rate = 1; rate <= 9; rate++) {
            BargeBallast x = Barges.alone(3, rate);
            Barges.workText(x, "f1");
            due("in a minute", x.tank(3, 0), 20 + rate);
            Barges.workText(x, "f2");
            due("in three", x.count(8), 3 * rate);
        }
        BargeBallast x = Barges.open();
        Barges.workText(x, "f1");
        due("at the first rate", x.count(8), 4);
    }

    private static void rateOfEmptying() {
        for (int rate = 1; rate <= 9; rate++) {
            BargeBallast x = Barges.alone(3, rate);
            Barges.workText(x, "e1");
            due("in a minute", x.tank(3, 0), 20 - rate);
            Barges.workText(x, "e1");
            due("in two", x.count(9), 2 * rate);
        }
    }

    private static void rateOfLevelling() {
        for (int rate = 1; rate <= 9; rate++) {
            BargeBallast x = Barges.withWater(70);
            x.set(0, rate);
            Barges.openOnly(x, 0, 3);
            Barges.workText(x, "l1");
            water("in a minute", x, 70 - rate, 20 + rate);
            Barges.workText(x, "l1");
            due("in two", x.count(11), 2 * rate);
        }
    }

    private static void oneAfterTheOther() {
        BargeBallast x = Barges.withWater(20, 18, 19, 30);
        Barges.openOnly(x, 0, 7);
        Barges.workText(x, "f1");
        water("1, 1, 2, 0", x, 21, 20, 20, 30);
        x = Barges.withWater(20, 22, 21, 30);
        Barges.openOnly(x, 0, 7);
        Barges.workText(x, "e1");
        water("1, 1, 2, 0", x, 19, 20, 20, 30);
        x = Barges.withWater(24, 24, 20, 20);
        Barges.openOnly(x, 0, 15);
        Barges.workText(x, "l1");
        water("0 to 2, 1 to 3, 0 to 2, 1 to 3", x, 22, 22, 22, 22);
    }

    private static void fillsAsLongAsPossible() {
        BargeBallast x = Barges.withWater(95);
        x.set(0, 9);
        int river = x.count(8);
        Barges.openOnly(x, 0, 1);
        due("f3", Barges.workText(x, "f3"), 0);
        due("5 of 9", x.tank(0, 0), 100);
        due("from the river", x.count(8), river + 5);
        due("the minutes pass to the end", x.count(7), 75 + 3);
    }

    private static void emptiesAsLongAsPossible() {
        BargeBallast x = Barges.withWater(5);
        x.set(0, 9);
        int river = x.count(9);
        Barges.openOnly(x, 0, 1);
        due("e3", Barges.workText(x, "e3"), 0);
        due("5 of 9", x.tank(0, 0), 0);
        due("into the river", x.count(9), river + 5);
        due("the minutes pass to the end", x.count(7), 15 + 3);
    }

    private static void levelsAsLongAsPossible() {
        BargeBallast x = Barges.withWater(27);
        x.set(0, 9);
        Barges.openOnly(x, 0, 3);
        due("l3", Barges.workText(x, "l3"), 0);
        water("3 of 9", x, 24, 23);
        due("levelled", x.count(11), 3);
        due("the minutes pass to the end", x.count(7), 7 + 3);
    }

    private static void againInEachMinute() {
        BargeBallast x = Barges.withWater(99);
        Barges.openOnly(x, 0, 1);
        Barges.passToDigit(x, 7);
        x.leak(0, 6);
        int river = x.count(8);
        due("f4", Barges.workText(x, "f4"), 0);
        due("1, nothing, 6 leak, 4", x.tank(0, 0), 98);
        due("from the river", x.count(8), river + 5);
        BargeBallast y = Barges.withWater(22);
        Barges.openOnly(y, 0, 3);
        Barges.passToDigit(y, 7);
        y.leak(1, 3);
        due("l4", Barges.workText(y, "l4"), 0);
        water("1, nothing, 3 leak, 1", y, 20, 19);
        due("levelled", y.count(11), 2);
    }

    private static void fillsTheLeast() {
        BargeBallast x = Barges.withWater(20, 19, 18, 17, 16, 15, 14, 13);
        x.set(0, 1);
        Barges.openOnly(x, 0, 0b00111100);
        Barges.workText(x, "f1");
        water("15 is the least that is open", x, 20, 19, 18, 17, 16, 16, 14, 13);
        x = Barges.withWater(13, 14, 15, 16, 17, 18, 19, 20);
        x.set(0, 1);
        Barges.openOnly(x, 0, 0b00111100);
        Barges.workText(x, "f1");
        water("15 is the least that is open", x, 13, 14, 16, 16, 17, 18, 19, 20);
    }

    private static void fillsTheLowestNumber() {
        BargeBallast x = Barges.withWater(20, 20, 19, 18, 18, 18, 18, 18);
        x.set(0, 1);
        Barges.openOnly(x, 0, 0b11110110);
        Barges.workText(x, "f1");
        water("4 of 4 to 7", x, 20, 20, 19, 18, 19, 18, 18, 18);
        Barges.workText(x, "f3");
        water("then 5, 6, 7", x, 20, 20, 19, 18, 19, 19, 19, 19);
        Barges.workText(x, "f1");
        water("then 2 of 2 and 4 to 7", x, 20, 20, 20, 18, 19, 19, 19, 19);
    }

    private static void fillsBelow100() {
        BargeBallast x = Barges.withWater(100, 99, 100, 98);
        x.set(2, 200);
        Barges.openOnly(x, 0, 15);
        int river = x.count(8);
        due("f1", Barges.workText(x, "f1"), 0);
        water("3 of 4 units have room", x, 100, 100, 100, 100, 20);
        due("from the river", x.count(8), river + 3);
        due("f1", Barges.workText(x, "f1"), 1);
        due("from the river", x.count(8), river + 3);
    }

    private static void fillsUpToTheDraught() {
        BargeBallast x = Barges.open();
        x.load(0, 16, 0);
        x.set(2, 57);
        due("f2", Barges.workText(x, "f2"), 0);
        due("3 of 4 units: a draught of 57", x.count(0), 579);
        due("draught", x.count(3), 57);
        due("from the river", x.count(8), 3);
        due("580 would be deeper", Barges.workText(x, "f1"), 1);
        x.set(2, 58);
        due("but not than 58", Barges.workText(x, "f1"), 0);
        due("weight", x.count(0), 583);
        Barges.workText(x, "f60");
        due("weight", x.count(0), 589);
    }

    private static void emptiesTheMost() {
        BargeBallast x = Barges.withWater(20, 21, 22, 23, 24, 25, 26, 27);
        x.set(0, 1);
        Barges.openOnly(x, 0, 0b00111100);
        Barges.workText(x, "e1");
        water("25 is the most that is open", x, 20, 21, 22, 23, 24, 24, 26, 27);
        x = Barges.withWater(27, 26, 25, 24, 23, 22, 21, 20);
        x.set(0, 1);
        Barges.openOnly(x, 0, 0b00111100);
        Barges.workText(x, "e1");
        water("25 is the most that is open", x, 27, 26, 24, 24, 23, 22, 21, 20);
    }

    private static void emptiesTheLowestNumber() {
        BargeBallast x = Barges.withWater(20, 20, 21, 22, 22, 22, 22, 22);
        x.set(0, 1);
        Barges.openOnly(x, 0, 0b11110110);
        Barges.workText(x, "e1");
        water("4 of 4 to 7", x, 20, 20, 21, 22, 21, 22, 22, 22);
        Barges.workText(x, "e3");
        water("then 5, 6, 7", x, 20, 20, 21, 22, 21, 21, 21, 21);
        Barges.workText(x, "e1");
        water("then 2 of 2 and 4 to 7", x, 20, 20, 20, 22, 21, 21, 21, 21);
    }

    private static void emptiesAboveZero() {
        BargeBallast x = Barges.withWater(0, 1, 0, 2);
        Barges.openOnly(x, 0, 15);
        int river = x.count(9);
        due("e1", Barges.workText(x, "e1"), 0);
        water("3 of 4 units are there", x, 0, 0, 0, 0, 20);
        due("into the river", x.count(9), river + 3);
        due("e1", Barges.workText(x, "e1"), 1);
        due("into the river", x.count(9), river + 3);
    }

    private static void levelsMostToLeast() {
        BargeBallast x = Barges.withWater(30, 21, 25, 22, 18, 23, 19, 10);
        x.set(0, 1);
        Barges.openOnly(x, 0, 0b01111110);
        int fromRiver = x.count(8);
        int intoRiver = x.count(9);
        Barges.workText(x, "l1");
        water("25 and 18 are the most and the least that are open", x,
                30, 21, 24, 22, 19, 23, 19, 10);
        due("levelled", x.count(11), 1);
        due("from the river", x.count(8), fromRiver);
        due("into the river", x.count(9), intoRiver);
    }

    private static void levelsTheLowestNumbers() {
        BargeBallast x = Barges.withWater(20, 22, 20, 22, 20, 22);
        x.set(0, 1);
        Barges.openOnly(x, 0, 0b00111111);
        Barges.workText(x, "l1");
        water("1 to 0", x, 21, 21, 20, 22, 20, 22);
        Barges.workText(x, "l1");
        water("3 to 2", x, 21, 21, 21, 21, 20, 22);
        Barges.workText(x, "l1");
        water("5 to 4", x, 21, 21, 21, 21, 21, 21);
    }

    private static void levelsADifferenceOf2() {
        BargeBallast x = Barges.withWater(21, 20);
        Barges.openOnly(x, 0, 3);
        due("a difference of 1", Barges.workText(x, "l1"), 1);
        water("stays", x, 21, 20);
        x = Barges.withWater(20, 22);
        Barges.openOnly(x, 0, 3);
        due("a difference of 2", Barges.workText(x, "l1"), 0);
        water("one unit, and no other behind it", x, 21, 21);
        x = Barges.withWater(20, 23);
        Barges.openOnly(x, 0, 3);
        due("a difference of 3", Barges.workText(x, "l9"), 0);
        water("one unit, and no other behind it", x, 21, 22);
        due("levelled", x.count(11), 1);
    }

    private static void offMovesNothing() {
        BargeBallast x = Barges.withWater(30, 10);
        x.set(0, 9);
        Barges.openOnly(x, 4, 127);
        for (String pumping : new String[] {"f1", "e1", "l1"}) {
            Barges.workText(x, pumping);
            int[] before = {x.tank(0, 0), x.tank(1, 0), x.count(6), x.count(8), x.count(9)};
            x.pass(7);
            int[] after = {x.tank(0, 0), x.tank(1, 0), x.count(6), x.count(8), x.count(9)};
            for (int i = 0; i < before.length; i++) {
                due("number " + i + " behind " + pumping, after[i], before[i]);
            }
        }
        due("21 and 19, levelled in the one minute", x.count(11), 1);
    }

    private static void leaksInEveryTenthMinute() {
        BargeBallast x = new BargeBallast();
        x.leak(0, 1);
        int[][] rows = {{8, 20}, {1, 20}, {1, 19}, {1, 19}, {8, 19}, {1, 18}, {1, 18}, {10, 17}};
        for (int[] row : rows) {
            x.pass(row[0]);
            due("minute " + x.count(7), x.tank(0, 0), row[1]);
        }
        BargeBallast y = new BargeBallast();
        y.leak(0, 1);
        y.pass(199);
        due("19 leaks in 199 minutes", y.tank(0, 6), 19);
        y.pass(1);
        due("20 in 200", y.tank(0, 6), 20);
    }

    private static void minutesOfOrdersCountToo() {
        BargeBallast x = new BargeBallast();
        x.leak(7, 1);
        x.pass(4);
        Barges.openOnly(x, 0, 1);
        Barges.workText(x, "f2;e3");
        due("9 minutes", x.tank(7, 0), 20);
        due("a refused order takes none", Barges.workText(x, "c1;o0"), 2);
        due("9 minutes", x.tank(7, 0), 20);
        Barges.workText(x, "f1");
        due("10 minutes", x.tank(7, 0), 19);
        x.leak(7, 2);
        Barges.workText(x, "e10");
        due("20 minutes, though the leak is new", x.tank(7, 0), 17);
    }

    private static void leaksWhatItHas() {
        int[][] rows = {{10, 1, 9}, {9, 0, 9}, {8, 0, 8}, {1, 0, 1}, {0, 0, 0}};
        for (int[] row : rows) {
            BargeBallast x = Barges.withWater(20, 20, row[0]);
            x.leak(2, 9);
            Barges.passToDigit(x, 0);
            due("left of " + row[0], x.tank(2, 0), row[1]);
            due("lost of " + row[0], x.tank(2, 6), row[2]);
            due("lost in all", x.count(10), row[2]);
        }
    }

    private static void leaksBehindThePump() {
        BargeBallast x = Barges.withWater(98);
        x.leak(0, 5);
        Barges.openOnly(x, 0, 1);
        Barges.passToDigit(x, 9);
        Barges.workText(x, "f1");
        due("2 into it, then 5 out of it", x.tank(0, 0), 95);
        BargeBallast y = Barges.withWater(6);
        y.leak(0, 5);
        Barges.openOnly(y, 0, 1);
        Barges.passToDigit(y, 9);
        Barges.workText(y, "e1");
        due("4 into the river, then what is left", y.tank(0, 6), 2);
        due("empty", y.tank(0, 0), 0);
    }

    private static void eachTankLeaks() {
        BargeBallast x = new BargeBallast();
        Barges.openOnly(x, 0, 15);
        for (int tank = 0; tank < 8; tank++) {
            x.leak(tank, tank + 2);
        }
        x.pass(10);
        water("in the minute 10", x, 18, 17, 16, 15, 14, 13, 12, 11);
        due("lost", x.count(10), 2 + 3 + 4 + 5 + 6 + 7 + 8 + 9);
        due("not into the river", x.count(9), 0);
    }

    private static void shiftsAboveTheSetting() {
        int[][] rows = {{1, 239, 2, 0}, {1, 240, 2, 1}, {1, 240, 3, 0}, {2, 139, 5, 0},
            {1, 62, 2, 0}};
        for (int[] row : rows) {
            for (int side = -1; side <= 1; side += 2) {
                BargeBallast x = new BargeBallast();
                x.load(1, row[1], side * row[0]);
                x.set(1, row[2]);
                String when = "load " + row[1] + ", shift " + side * row[0] + ", " + row[2];
                x.pass(1);
                due(when, x.hold(1, 1), side * (row[0] + row[3]));
                due(when + ": shifts", x.count(15), row[3]);
            }
        }
    }

    private static void nothingShiftsAt99() {
        BargeBallast x = new BargeBallast();
        x.set(2, 200);
        Barges.openOnly(x, 0, 0b01010101);
        Barges.workText(x, "e40");
        x.load(0, 300, 3);
        x.load(1, 300, 3);
        x.load(2, 300, 2);
        x.set(1, 99);
        due("weight", x.count(0), 1380);
        due("27200 / 1380", x.pass(5), 19);
        due("shifts", x.count(15), 0);
    }

    private static void holdsWithoutALoadStay() {
        BargeBallast x = new BargeBallast();
        x.load(0, 0, 1);
        x.load(1, 300, 2);
        x.load(2, 1, 1);
        x.set(1, 2);
        x.pass(1);
        due("a load of 0", x.hold(0, 1), 1);
        due("a load of 300", x.hold(1, 1), 3);
        due("a load of 1", x.hold(2, 1), 2);
        due("shifts", x.count(15), 2);
    }

    private static void allHoldsShiftAtOnce() {
        BargeBallast x = new BargeBallast();
        x.load(0, 10, -3);
        x.load(1, 300, 2);
        x.load(2, 10, -1);
        x.set(1, 5);
        due("5600 / 880", x.count(2), 6);
        x.pass(1);
        int[] shifts = {-2, 3, 0};
        for (int hold = 0; hold < 3; hold++) {
            due("hold " + hold, x.hold(hold, 1), shifts[hold]);
        }
        due("shifts", x.count(15), 3);
    }

    private static void shiftsToTheLowSide() {
        for (int side = -1; side <= 1; side += 2) {
            BargeBallast x = new BargeBallast();
            x.load(1, 300, 3 * side);
            x.load(0, 5, -3 * side);
            x.set(1, 2);
            int[] shifts = {-2, -1, 0, 1, 2, 3, 3};
            for (int shift : shifts) {
                x.pass(1);
                due("from the high side, minute by minute", x.hold(0, 1), side * shift);
            }
            due("shifts", x.count(15), 6);
        }
    }

    private static void shiftsAtMostTo3() {
        for (int side = -1; side <= 1; side += 2) {
            BargeBallast x = new BargeBallast();
            x.load(1, 300, 2 * side);
            x.set(1, 2);
            x.pass(1);
            due("to 3", x.hold(1, 1), 3 * side);
            due("one shift", x.count(15), 1);
            x.pass(50);
            due("no further", x.hold(1, 1), 3 * side);
            due("and it is no shift", x.count(15), 1);
        }
    }

    private static void listBehindTheLeaks() {
        BargeBallast x = new BargeBallast();
        x.load(1, 239, 1);
        x.set(1, 2);
        x.leak(0, 3);
        due("2390 / 799 in the minute 9", x.pass(9), 2);
        due("shifts", x.count(15), 0);
        due("2510 / 796 in the minute 10, then 4900 / 796", x.pass(1), 6);
        due("shifts", x.count(15), 1);
        BargeBallast y = new BargeBallast();
        y.load(1, 240, 1);
        y.set(1, 2);
        y.leak(1, 3);
        y.pass(9);
        due("shifts from 3 on", y.count(15), 2);
        BargeBallast z = new BargeBallast();
        z.pass(9);
        z.load(1, 240, 1);
        z.set(1, 2);
        z.leak(1, 3);
        due("2280 / 797 in the minute 10", z.pass(1), 2);
        due("shifts", z.count(15), 0);
    }

    private static void listBehindThePump() {
        BargeBallast x = new BargeBallast();
        x.load(1, 240, 1);
        x.set(1, 2);
        Barges.openOnly(x, 0, 1);
        Barges.workText(x, "f1");
        due("2400 - 160 / 804", x.count(2), 2);
        due("shifts", x.count(15), 0);
        Barges.workText(x, "e1");
        due("2400 / 800, then it shifts to 2", x.count(2), 6);
        due("shifts", x.count(15), 1);
    }

    private static void passRange() {
        due("pass(1)", new BargeBallast().pass(1), 0);
        due("pass(2)", new BargeBallast().pass(2), 0);
        due("pass(199)", new BargeBallast().pass(199), 0);
        BargeBallast x = new BargeBallast();
        due("pass(200)", x.pass(200), 0);
        due("minutes", x.count(7), 200);
        x.pass(1);
        due("minutes", x.count(7), 201);
        for (int wrong : new int[] {0, 201, -1, Integer.MIN_VALUE, Integer.MAX_VALUE}) {
            REFUSALS.due("pass " + wrong, Barges::lived, y -> y.pass(wrong), BAD_VALUE);
        }
    }

    private static void passTellsTheListThen() {
        BargeBallast x = new BargeBallast();
        x.load(1, 240, 1);
        x.set(1, 2);
        due("2400 / 800 before, 4800 / 800 then", x.pass(1), 6);
        due("count(2)", x.count(2), 6);
        BargeBallast y = new BargeBallast();
        y.load(1, 240, -1);
        due("to port", y.pass(1), -3);
    }
}
