/** Promises 17, 19, 20 and 22 to 24: a test for each sentence with an edge. */
public final class ToldEdgesTest {
    private static final int UNKNOWN = -1001;
    private static final int BAD_VALUE = -1002;
    private static final int NONE = -1005;

    private static final Answers ANSWERS = new Answers();
    private static final Refusals REFUSALS = new Refusals(ANSWERS);

    public static void main(String[] args) {
        ranges();
        tanksAndGroups();
        moments();
        uprighting();
        counts();
        ANSWERS.end();
    }

    private static void said(String sentence, Runnable test) {
        ANSWERS.sentence(sentence, test);
    }

    private static void due(String call, long got, long want) {
        ANSWERS.due(call, got, want);
    }

    private static void ranges() {
        said("tank: what, 0 to 6", ToldEdgesTest::tankRange);
        said("hold: what, 0 and 1", ToldEdgesTest::holdRange);
        said("group: what, 0 to 2", ToldEdgesTest::groupRange);
        said("tank, hold, group: UNKNOWN; BAD_VALUE", ToldEdgesTest::unknownGoesFirst);
        said("trimMoment: point, -50 to 50", ToldEdgesTest::pointRange);
        said("upright: units, 1 to 100", ToldEdgesTest::unitsRange);
        said("upright: what, 0 to 2", ToldEdgesTest::uprightWhatRange);
        said("count: what, 0 to 20", ToldEdgesTest::countRange);
        said("the constants", ToldEdgesTest::constants);
    }

    private static void tanksAndGroups() {
        said("for whether it is open (1, otherwise 0)", ToldEdgesTest::openTank);
        said("for the groups that have it (a set)", ToldEdgesTest::groupsWithATank);
        said("for the units that it lost by its leak so far", ToldEdgesTest::lostByItsLeak);
        said("group: for its water", ToldEdgesTest::waterOfAGroup);
    }

    private static void moments() {
        said("reckoned about another point: the sum and point times (the weight less 400)",
                ToldEdgesTest::momentAboutAPoint);
        said("the trim moment of the least and the greatest", ToldEdgesTest::greatestMoments);
    }

    private static void uprighting() {
        said("the least list without a sign", ToldEdgesTest::leastList);
        said("at most so many", ToldEdgesTest::atMostSoMany);
        said("of several the fewest units", ToldEdgesTest::fewestUnits);
        said("then the lowest tank", ToldEdgesTest::lowestTank);
        said("as far as it has room", ToldEdgesTest::asFarAsRoom);
        said("or water", ToldEdgesTest::asFarAsWater);
        said("put into it or taken out of it, by the weight as it is then",
                ToldEdgesTest::weightAsItIsThen);
        said("the draught does not matter", ToldEdgesTest::draughtDoesNotMatter);
        said("0 units of the tank 0 if nothing is better than now", ToldEdgesTest::nothingBetter);
        said("upright: tells, and changes nothing", ToldEdgesTest::uprightTellsAlone);
    }

    private static void counts() {
        said("used for at most 512 calls: minutes so far", ToldEdgesTest::minutesOf512Calls);
        said("units from the river so far", ToldEdgesTest::fromTheRiver);
        said("units into the river so far", ToldEdgesTest::intoTheRiver);
        said("units lost by leaks so far", ToldEdgesTest::lostByLeaks);
        said("units levelled so far", ToldEdgesTest::unitsLevelled);
        said("orders that wait", ToldEdgesTest::ordersThatWait);
        said("orders that were refused so far", ToldEdgesTest::ordersRefused);
        said("open tanks (a set)", ToldEdgesTest::openTanks);
        said("shifts of cargo so far (holds that shifted, each time)",
                ToldEdgesTest::shiftsOfCargo);
        said("the states in the history, the length of the text", ToldEdgesTest::lengths);
    }

    private static void tankRange() {
        int[] told = {20, 0, 0, 17, 0, NONE, 0};
        BargeBallast x = new BargeBallast();
        for (int what = 0; what <= 6; what++) {
            due("what " + what, x.tank(0, what), told[what]);
        }
        for (int wrong : new int[] {-1, 7, Integer.MIN_VALUE, Integer.MAX_VALUE}) {
            REFUSALS.due("what " + wrong, Barges::lived, y -> y.tank(7, wrong), BAD_VALUE);
        }
    }

    private static void holdRange() {
        BargeBallast x = new BargeBallast();
        x.load(2, 300, -3);
        due("load", x.hold(2, 0), 300);
        due("shift", x.hold(2, 1), -3);
        for (int wrong : new int[] {-1, 2, Integer.MIN_VALUE, Integer.MAX_VALUE}) {
            REFUSALS.due("what " + wrong, Barges::lived, y -> y.hold(2, wrong), BAD_VALUE);
        }
    }

    private static void groupRange() {
        BargeBallast x = new BargeBallast();
        int[] told = {255, 0, 160};
        for (int what = 0; what <= 2; what++) {
            due("what " + what, x.group(4, what), told[what]);
        }
        for (int wrong : new int[] {-1, 3, Integer.MIN_VALUE, Integer.MAX_VALUE}) {
            REFUSALS.due("what " + wrong, Barges::lived, y -> y.group(4, wrong), BAD_VALUE);
        }
    }

    private static void unknownGoesFirst() {
        REFUSALS.due("tank(8, 7)", Barges::lived, x -> x.tank(8, 7), UNKNOWN);
        REFUSALS.due("tank(-1, -1)", Barges::lived, x -> x.tank(-1, -1), UNKNOWN);
        REFUSALS.due("hold(3, 2)", Barges::lived, x -> x.hold(3, 2), UNKNOWN);
        REFUSALS.due("hold(-1, -1)", Barges::lived, x -> x.hold(-1, -1), UNKNOWN);
        REFUSALS.due("group(5, 3)", Barges::lived, x -> x.group(5, 3), UNKNOWN);
        REFUSALS.due("group(-1, -1)", Barges::lived, x -> x.group(-1, -1), UNKNOWN);
    }

    private static void pointRange() {
        BargeBallast x = new BargeBallast();
        x.load(2, 7, 0);
        for (int point : new int[] {-50, -49, 0, 49, 50}) {
            due("point " + point, x.trimMoment(point), 140);
        }
        for (int wrong : new int[] {-51, 51, Integer.MIN_VALUE, Integer.MAX_VALUE}) {
            REFUSALS.due("point " + wrong, Barges::lived, y -> y.trimMoment(wrong), BAD_VALUE);
        }
    }

    private static void unitsRange() {
        BargeBallast x = new BargeBallast();
        due("1 unit", x.upright(1, 1), 0);
        due("100 units", x.upright(100, 1), 0);
        for (int wrong : new int[] {0, 101, -1, Integer.MIN_VALUE, Integer.MAX_VALUE}) {
            for (int what = 0; what <= 2; what++) {
                int now = what;
                REFUSALS.due("units " + wrong, Barges::lived, y -> y.upright(wrong, now),
                        BAD_VALUE);
            }
        }
    }

    private static void uprightWhatRange() {
        for (int wrong : new int[] {-1, 3, Integer.MIN_VALUE, Integer.MAX_VALUE}) {
            REFUSALS.due("what " + wrong, Barges::lived, x -> x.upright(1, wrong), BAD_VALUE);
            REFUSALS.due("units and what", Barges::lived, x -> x.upright(0, wrong), BAD_VALUE);
        }
    }

    private static void countRange() {
        BargeBallast x = new BargeBallast();
        due("the first", x.count(0), 560);
        due("the last", x.count(20), 0);
        for (int wrong : new int[] {-1, 21, Integer.MIN_VALUE, Integer.MAX_VALUE}) {
            REFUSALS.due("what " + wrong, Barges::lived, y -> y.count(wrong), BAD_VALUE);
        }
    }

    private static void constants() {
        due("UNKNOWN", BargeBallast.UNKNOWN, -1001);
        due("BAD_VALUE", BargeBallast.BAD_VALUE, -1002);
        due("FULL", BargeBallast.FULL, -1003);
        due("NOT_POSSIBLE", BargeBallast.NOT_POSSIBLE, -1004);
        due("NONE", BargeBallast.NONE, -1005);
    }

    private static void openTank() {
        for (int tank = 0; tank < 8; tank++) {
            BargeBallast x = new BargeBallast();
            due("no group is open", x.tank(tank, 2), 0);
            Barges.openOnly(x, 0, 1 << tank);
            for (int other = 0; other < 8; other++) {
                due("one tank alone", x.tank(other, 2), other == tank ? 1 : 0);
            }
            Barges.workText(x, "c0");
            due("closed again", x.tank(tank, 2), 0);
        }
    }

    private static void groupsWithATank() {
        BargeBallast x = new BargeBallast();
        for (int group = 0; group < 5; group++) {
            x.setGroup(group, 128);
        }
        due("all groups", x.tank(7, 3), 31);
        due("no group", x.tank(0, 3), 0);
        x.setGroup(0, 1);
        due("all but the first", x.tank(7, 3), 30);
        due("the first alone", x.tank(0, 3), 1);
        x.setGroup(4, 255);
        due("the first and the last", x.tank(0, 3), 17);
        due("the last alone", x.tank(1, 3), 16);
        Barges.workText(x, "o1;o4");
        due("open or not", x.tank(7, 3), 30);
    }

    private static void lostByItsLeak() {
        BargeBallast x = new BargeBallast();
        x.leak(5, 9);
        int[] lost = {0, 9, 18, 20, 20};
        x.pass(9);
        for (int leaks = 0; leaks < lost.length; leaks++) {
            due("behind " + leaks + " leaks", x.tank(5, 6), lost[leaks]);
            due("another tank", x.tank(4, 6), 0);
            x.pass(10);
        }
        x.leak(5, 0);
        due("so far", x.tank(5, 6), 20);
        BargeBallast y = Barges.alone(5, 9);
        Barges.workText(y, "e3");
        due("the pump is no leak", y.tank(5, 6), 0);
    }

    private static void waterOfAGroup() {
        BargeBallast x = Barges.withWater(0, 100, 1, 2, 4, 8, 16, 32);
        int[] water = {100, 3, 12, 48, 163};
        for (int group = 0; group < 5; group++) {
            due("group " + group, x.group(group, 2), water[group]);
        }
        x.setGroup(0, 1);
        due("an empty tank", x.group(0, 2), 0);
        x.setGroup(0, 129);
        due("the first and the last", x.group(0, 2), 32);
    }

    private static void momentAboutAPoint() {
        BargeBallast x = Barges.withWater(0, 3, 50, 7, 20, 31, 20, 20);
        x.load(0, 11, 3);
        x.load(1, 200, 1);
        x.load(2, 5, -3);
        int[] arms = {-30, -30, -10, -10, 10, 10, 30, 30};
        int[] water = {0, 3, 50, 7, 20, 31, 20, 20};
        for (int point = -50; point <= 50; point++) {
            int sum = point * (x.count(0) - 400);
            for (int tank = 0; tank < 8; tank++) {
                sum += water[tank] * (arms[tank] - point);
            }
            sum += 11 * (-20 - point) + 200 * (0 - point) + 5 * (20 - point);
            due("point " + point, x.trimMoment(point), sum);
            due("point " + point, x.trimMoment(point), 930);
        }
        due("count(4)", x.count(4), 930);
        due("count(1)", x.count(1), 23);
    }

    private static void greatestMoments() {
        int[] toTheStern = {100, 100, 100, 100, 0, 0, 0, 0};
        int[] toTheBow = {0, 0, 0, 0, 100, 100, 100, 100};
        BargeBallast x = Barges.withWater(toTheStern);
        x.load(0, 300, 0);
        due("trim moment", x.count(4), -6000 - 2000 - 6000);
        due("trim", x.count(1), -350);
        due("about -50", x.trimMoment(-50), -14000);
        BargeBallast y = Barges.withWater(toTheBow);
        y.load(2, 300, 0);
        due("trim moment", y.count(4), 14000);
        due("trim", y.count(1), 350);
        due("about 50", y.trimMoment(50), 14000);
    }

    private static void best(String when, BargeBallast x, int units, int tank, int change,
            int list) {
        due(when + ": tank", x.upright(units, 0), tank);
        due(when + ": units", x.upright(units, 1), change);
        due(when + ": list", x.upright(units, 2), list);
    }

    private static BargeBallast loaded(int load, int shift) {
        BargeBallast x = new BargeBallast();
        x.load(1, load, shift);
        return x;
    }

    private static void leastList() {
        best("to starboard: (1000 - 40 * 9) / 669", loaded(100, 1), 100, 0, 9, 0);
        best("to port: (-1000 + 40 * 9) / 651", loaded(100, -1), 100, 0, -9, 0);
        best("(2400 - 40 * 40) / 840", loaded(240, 1), 100, 0, 40, 0);
        best("(2400 - 40 * 20) / 820", loaded(240, 1), 39, 0, 20, 1);
        best("2360 / 801, as 1640 / 819 is 2 too", loaded(240, 1), 19, 0, 1, 2);
        best("(-9000 + 40 * 64) / 924, a list below 0", loaded(300, -3), 100, 1, 64, -6);
    }

    private static void atMostSoMany() {
        best("9 of 9", loaded(100, 1), 9, 0, 9, 0);
        best("8 are too few", loaded(100, 1), 8, 0, 0, 1);
        best("10", loaded(100, 1), 10, 0, 9, 0);
        best("1 of 1", loaded(63, 1), 1, 0, 1, 0);
        due("without it", loaded(63, 1).count(2), 1);
    }

    private static void fewestUnits() {
        best("9 into 0 as well as 10, 11, ..", loaded(100, 1), 100, 0, 9, 0);
        BargeBallast x = loaded(166, -1);
        due("-1660 / 726", x.count(2), -2);
        best("5 into 1: -1460 / 731, and 6 out of 0: -1420 / 720", x, 8, 1, 5, -1);
    }

    private static void lowestTank() {
        best("9 into 0 as well as 2, 4, 6", loaded(100, 1), 100, 0, 9, 0);
        BargeBallast x = Barges.withWater(100, 100);
        x.load(1, 120, 1);
        due("1200 / 840", x.count(2), 1);
        best("9 into 2 as well as 4 and 6, and 10 out of 1", x, 100, 2, 9, 0);
        best("9 out of 0 as well as into 1: -640 / 651 and / 669", loaded(100, -1), 100, 0, -9, 0);
    }

    /** To starboard by her cargo; to port there is no room but in tank 0. */
    private static BargeBallast roomOf(int room, int load) {
        return cargoToStarboard(Barges.withWater(100 - room, 0, 100, 0, 100, 0, 100, 0), load);
    }

    /** To starboard by her cargo; there is no water to starboard but in tank 1. */
    private static BargeBallast waterOf(int water, int load) {
        return cargoToStarboard(Barges.withWater(100, water, 100, 0, 100, 0, 100, 0), load);
    }

    private static BargeBallast cargoToStarboard(BargeBallast x, int load) {
        x.set(2, 200);
        x.load(0, 300, 3);
        x.load(1, 300, 3);
        x.load(2, load, 3);
        due("list", x.count(2), 3);
        return x;
    }

    private static void asFarAsRoom() {
        best("4470 / 1480 and 4430 / 1481: 5 fill it", roomOf(5, 81), 100, 0, 5, 2);
        best("4460 / 1482 and 4420 / 1483: 5 would do, but 4 fill it", roomOf(4, 82), 100,
                0, 0, 3);
        best("a full tank", roomOf(0, 82), 100, 0, 0, 3);
    }

    private static void asFarAsWater() {
        best("4470 / 1482 and 4430 / 1481: 5 empty it", waterOf(5, 81), 100, 1, -5, 2);
        best("4460 / 1482 and 4420 / 1481: 5 would do, but 4 empty it", waterOf(4, 82), 100,
                0, 0, 3);
        best("an empty tank", waterOf(0, 82), 100, 0, 0, 3);
    }

    private static void weightAsItIsThen() {
        best("into 0: 670 / 672, though not / 663", loaded(103, 1), 100, 0, 9, 0);
        best("into 1: 670 / 672; out of 0: 670 / 654", loaded(103, -1), 100, 1, 9, 0);
        best("into 1: 660 / 671; out of 0: 660 / 653", loaded(102, -1), 100, 1, 9, 0);
    }

    private static void draughtDoesNotMatter() {
        BargeBallast x = loaded(100, 1);
        x.set(2, 66);
        best("669 is not deeper than 66", x, 100, 0, 9, 0);
        x.set(2, 65);
        best("660 is deeper than 65", x, 100, 0, 9, 0);
        x.set(2, 50);
        best("too deep by far", x, 100, 0, 9, 0);
    }

    private static void nothingBetter() {
        best("upright", new BargeBallast(), 100, 0, 0, 0);
        best("a list of 0, though the moment is not", loaded(62, 1), 100, 0, 0, 0);
        best("too few units", loaded(100, 1), 8, 0, 0, 1);
        best("too few units, to port", loaded(100, -1), 8, 0, 0, -1);
    }

    private static void uprightTellsAlone() {
        for (int what = 0; what <= 2; what++) {
            int now = what;
            int want = Barges.lived().upright(100, what);
            REFUSALS.due("upright " + what, Barges::lived, x -> x.upright(100, now), want);
        }
    }

    private static void minutesOf512Calls() {
        BargeBallast x = new BargeBallast();
        x.leak(7, 9);
        for (int calls = 2; calls <= 509; calls++) {
            x.pass(200);
        }
        due("call 510: the list", x.count(2), -1);
        due("call 511: minutes", x.count(7), 508 * 200);
        due("call 512: undo", x.undo(), 3);
    }

    private static void fromTheRiver() {
        BargeBallast x = Barges.open();
        due("at first", x.count(8), 0);
        Barges.workText(x, "f1");
        due("filled", x.count(8), 4);
        Barges.workText(x, "e1");
        x.setGroup(4, 3);
        Barges.workText(x, "l1");
        due("not emptied, not levelled", x.count(8), 4);
        Barges.workText(x, "f2");
        due("filled", x.count(8), 12);
    }

    private static void intoTheRiver() {
        BargeBallast x = Barges.open();
        x.leak(7, 9);
        due("at first", x.count(9), 0);
        Barges.workText(x, "e1");
        due("emptied", x.count(9), 4);
        Barges.workText(x, "f1");
        x.pass(8);
        due("not filled, not lost by leaks", x.count(9), 4);
        Barges.workText(x, "e2");
        due("emptied", x.count(9), 12);
    }

    private static void lostByLeaks() {
        BargeBallast x = new BargeBallast();
        x.leak(0, 9);
        x.leak(7, 1);
        int[] lost = {0, 10, 20, 23, 24, 25};
        x.pass(1);
        for (int leaks = 0; leaks < lost.length; leaks++) {
            due("behind " + leaks + " leaks", x.count(10), lost[leaks]);
            x.pass(10);
        }
    }

    private static void unitsLevelled() {
        BargeBallast x = Barges.withWater(27);
        Barges.openOnly(x, 0, 3);
        due("at first", x.count(11), 0);
        Barges.workText(x, "l1");
        due("3 of 4", x.count(11), 3);
        due("refused", Barges.workText(x, "l1"), 1);
        due("so far", x.count(11), 3);
    }

    private static void ordersThatWait() {
        BargeBallast x = new BargeBallast();
        for (int waiting = 0; waiting <= 12; waiting++) {
            due("orders", x.count(12), waiting);
            x.order(0, 0);
        }
        due("one too many", x.count(12), 12);
        x.work(5);
        due("worked off", x.count(12), 7);
        x.strike(0);
        due("struck out", x.count(12), 0);
    }

    private static void ordersRefused() {
        BargeBallast x = new BargeBallast();
        due("at first", x.count(13), 0);
        Barges.workText(x, "c0;f1;o0;o0;l1;o1");
        due("4 of 6", x.count(13), 4);
        x.order(9, 9);
        x.order(1, 4);
        x.strike(1);
        due("a wrong call and a struck order are none", x.count(13), 4);
        Barges.workText(x, "o0");
        due("so far", x.count(13), 5);
    }

    private static void openTanks() {
        BargeBallast x = new BargeBallast();
        due("none", x.count(14), 0);
        for (int group = 0; group < 4; group++) {
            Barges.workText(x, "o" + group);
            due("the tanks of sections", x.count(14), (1 << 2 * group + 2) - 1);
        }
        Barges.workText(x, "o4;c0;c1;c2;c3");
        due("all", x.count(14), 255);
        x.setGroup(4, 1);
        due("the least", x.count(14), 1);
        x.setGroup(4, 128);
        due("the last", x.count(14), 128);
    }

    private static void shiftsOfCargo() {
        BargeBallast x = new BargeBallast();
        x.set(1, 2);
        x.load(0, 200, 2);
        x.load(1, 200, 1);
        x.load(2, 0, 1);
        due("at first", x.count(15), 0);
        int[] shifts = {2, 3, 3, 3};
        for (int so : shifts) {
            x.pass(1);
            due("so far", x.count(15), so);
        }
        x.load(0, 200, 0);
        due("to load is no shift", x.count(15), 3);
        x.pass(1);
        due("so far", x.count(15), 4);
    }

    private static void lengths() {
        BargeBallast x = new BargeBallast();
        due("no state", x.count(19), 0);
        due("no character", x.count(20), 0);
        x.sound(0);
        x.type('o');
        x.type('o');
        due("one state", x.count(19), 1);
        due("two characters", x.count(20), 2);
    }
}
