/** Promises 1 to 5 and the terms TANKS, HOLDS, WEIGHTS: a test for each sentence with an edge. */
public final class BargeEdgesTest {
    private static final int UNKNOWN = -1001;
    private static final int BAD_VALUE = -1002;
    private static final int NOT_POSSIBLE = -1004;
    private static final int NONE = -1005;
    private static final int[] OUTSIDE_TANKS = {-1, 8, Integer.MIN_VALUE, Integer.MAX_VALUE};
    private static final int[] OUTSIDE_HOLDS = {-1, 3, Integer.MIN_VALUE, Integer.MAX_VALUE};

    private static final Answers ANSWERS = new Answers();
    private static final Refusals REFUSALS = new Refusals(ANSWERS);

    public static void main(String[] args) {
        tanks();
        holds();
        weights();
        loading();
        changing();
        ANSWERS.end();
    }

    private static void said(String sentence, Runnable test) {
        ANSWERS.sentence(sentence, test);
    }

    private static void due(String call, long got, long want) {
        ANSWERS.due(call, got, want);
    }

    private static void tanks() {
        said("There are 8 tanks, numbered from 0", BargeEdgesTest::eightTanks);
        said("There is no such tank", BargeEdgesTest::noOtherTanks);
        said("the tank t is in the section t / 2, on the side t % 2",
                BargeEdgesTest::sectionsAndSides);
        said("It holds at most 100 units of water", BargeEdgesTest::tanksHoldAtMost100);
        said("It holds at least 0 units of water", BargeEdgesTest::tanksHoldAtLeast0);
        said("20 at first", BargeEdgesTest::twentyAtFirst);
        said("a leak (0 to 9 units in ten minutes; 0 at first)", BargeEdgesTest::leakRange);
    }

    private static void holds() {
        said("There are three holds, numbered from 0", BargeEdgesTest::threeHolds);
        said("There is no such hold", BargeEdgesTest::noOtherHolds);
        said("each with a load (0 to 300; 0 at first)", BargeEdgesTest::loadRange);
        said("and a shift (-3 to 3; 0 at first; below 0 to port)", BargeEdgesTest::shiftRange);
    }

    private static void weights() {
        said("The weight is 400, and all water and all loads together: the least",
                BargeEdgesTest::leastWeight);
        said("The weight is 400, and all water and all loads together: the greatest",
                BargeEdgesTest::greatestWeight);
        said("The trim is the trim moment / 40, cut toward 0", BargeEdgesTest::trimIsCut);
        said("the list is 10 times the list moment / the weight, cut toward 0",
                BargeEdgesTest::listIsCut);
        said("below 0: to the stern, to port", BargeEdgesTest::belowZero);
        said("The draught is the weight / 10, rounded down", BargeEdgesTest::draughtIsRoundedDown);
    }

    private static void loading() {
        said("load returns the draught then", BargeEdgesTest::loadTellsTheDraught);
        said("NOT_POSSIBLE if the draught would be deeper than the setting 2",
                BargeEdgesTest::loadUpToTheDraught);
        said("also if it would be less deep than now", BargeEdgesTest::lessDeepThanNow);
        said("load: NONE if it is so already", BargeEdgesTest::loadedSoAlready);
        said("load: UNKNOWN; BAD_VALUE; NOT_POSSIBLE; NONE", BargeEdgesTest::loadAsksInOrder);
    }

    private static void changing() {
        said("leak returns the previous one", BargeEdgesTest::leakTellsThePrevious);
        said("leak: NONE if it is so already", BargeEdgesTest::leaksSoAlready);
        said("leak: UNKNOWN; BAD_VALUE", BargeEdgesTest::leakAsksInOrder);
        said("tanks: a set, 1 to 255", BargeEdgesTest::groupSets);
        said("setGroup: it stays open or closed", BargeEdgesTest::groupStaysAsItIs);
        said("setGroup: NONE if it is so already", BargeEdgesTest::groupIsSoAlready);
        said("setGroup: UNKNOWN; BAD_VALUE", BargeEdgesTest::setGroupAsksInOrder);
        said("0 the rate of the pump (1 to 9; 4)", () -> settingRange(0, 1, 4, 9));
        said("1 the list at which cargo shifts (2 to 99; 12)", () -> settingRange(1, 2, 12, 99));
        said("2 the deepest draught (50 to 200; 120)", () -> settingRange(2, 50, 120, 200));
        said("set: which, 0 to 2", BargeEdgesTest::whichSetting);
        said("set: NONE if it is so already", BargeEdgesTest::settingIsSoAlready);
    }

    private static void eightTanks() {
        for (int tank = 0; tank < 8; tank++) {
            BargeBallast x = new BargeBallast();
            due("leak", x.leak(tank, 1), 0);
            due("sound", x.sound(tank), 20);
            due("tank", x.tank(tank, 1), 1);
            due("sounding", x.sounding(tank, 0, false), 20);
        }
    }

    private static void noOtherTanks() {
        for (int wrong : OUTSIDE_TANKS) {
            REFUSALS.due("leak " + wrong, Barges::lived, x -> x.leak(wrong, 1), UNKNOWN);
            REFUSALS.due("sound " + wrong, Barges::lived, x -> x.sound(wrong), UNKNOWN);
            REFUSALS.due("tank " + wrong, Barges::lived, x -> x.tank(wrong, 0), UNKNOWN);
            REFUSALS.due("sounding " + wrong, Barges::lived, x -> x.sounding(wrong, 0, true),
                    UNKNOWN);
        }
    }

    private static void sectionsAndSides() {
        int[] sectionArms = {-30, -10, 10, 30};
        int[] sideArms = {-4, 4};
        for (int section = 0; section < 4; section++) {
            for (int side = 0; side < 2; side++) {
                int[] water = {20, 20, 20, 20, 20, 20, 20, 20};
                water[2 * section + side] = 21;
                BargeBallast x = Barges.withWater(water);
                due("trim moment", x.count(4), sectionArms[section]);
                due("list moment", x.count(5), sideArms[side]);
            }
        }
    }

    private static void tanksHoldAtMost100() {
        for (int tank = 0; tank < 8; tank++) {
            BargeBallast x = Barges.alone(tank, 1);
            Barges.workText(x, "f60;f19");
            due("one below the most", x.tank(tank, 0), 99);
            due("one more", Barges.workText(x, "f1"), 0);
            due("full", x.tank(tank, 0), 100);
            due("one too many is refused", Barges.workText(x, "f1"), 1);
            due("full still", x.tank(tank, 0), 100);
            due("from the river", x.count(8), 80);
        }
        BargeBallast x = Barges.alone(5, 9);
        due("8 * 9 are 72, and 8 have room", Barges.workText(x, "f9"), 0);
        due("full", x.tank(5, 0), 100);
        due("from the river", x.count(8), 80);
    }

    private static void tanksHoldAtLeast0() {
        for (int tank = 0; tank < 8; tank++) {
            BargeBallast x = Barges.alone(tank, 1);
            Barges.workText(x, "e19");
            due("one above none", x.tank(tank, 0), 1);
            due("one more", Barges.workText(x, "e1"), 0);
            due("empty", x.tank(tank, 0), 0);
            due("one too many is refused", Barges.workText(x, "e1"), 1);
            due("empty still", x.tank(tank, 0), 0);
            due("into the river", x.count(9), 20);
        }
        BargeBallast x = Barges.alone(2, 9);
        due("2 * 9 are 18, and 2 are left", Barges.workText(x, "e3"), 0);
        due("empty", x.tank(2, 0), 0);
        due("into the river", x.count(9), 20);
    }

    private static void twentyAtFirst() {
        BargeBallast x = new BargeBallast();
        for (int tank = 0; tank < 8; tank++) {
            due("tank " + tank, x.tank(tank, 0), 20);
        }
        due("all water", x.count(6), 160);
        due("weight", x.count(0), 560);
    }

    private static void leakRange() {
        for (int tank = 0; tank < 8; tank++) {
            BargeBallast x = new BargeBallast();
            due("at first", x.tank(tank, 1), 0);
            due("leak 9", x.leak(tank, 9), 0);
            due("leak 8", x.leak(tank, 8), 9);
            due("leak 1", x.leak(tank, 1), 8);
            due("leak 0", x.leak(tank, 0), 1);
        }
        for (int wrong : new int[] {-1, 10, Integer.MIN_VALUE, Integer.MAX_VALUE}) {
            REFUSALS.due("leak(3, " + wrong + ")", Barges::lived, x -> x.leak(3, wrong), BAD_VALUE);
        }
    }

    private static void threeHolds() {
        for (int hold = 0; hold < 3; hold++) {
            BargeBallast x = new BargeBallast();
            due("load", x.load(hold, 10, 1), 57);
            due("hold", x.hold(hold, 0), 10);
        }
    }

    private static void noOtherHolds() {
        for (int wrong : OUTSIDE_HOLDS) {
            REFUSALS.due("load " + wrong, Barges::lived, x -> x.load(wrong, 1, 0), UNKNOWN);
            REFUSALS.due("hold " + wrong, Barges::lived, x -> x.hold(wrong, 0), UNKNOWN);
        }
    }

    private static void loadRange() {
        for (int hold = 0; hold < 3; hold++) {
            BargeBallast x = new BargeBallast();
            due("at first", x.hold(hold, 0), 0);
            due("load 299", x.load(hold, 299, 0), 85);
            due("load 300", x.load(hold, 300, 0), 86);
            due("hold", x.hold(hold, 0), 300);
            due("load 1", x.load(hold, 1, 0), 56);
            due("load 0", x.load(hold, 0, 0), 56);
            due("hold", x.hold(hold, 0), 0);
        }
        for (int wrong : new int[] {-1, 301, Integer.MIN_VALUE, Integer.MAX_VALUE}) {
            REFUSALS.due("load " + wrong, Barges::lived, x -> x.load(1, wrong, 0), BAD_VALUE);
        }
    }

    private static void shiftRange() {
        for (int hold = 0; hold < 3; hold++) {
            BargeBallast x = new BargeBallast();
            due("at first", x.hold(hold, 1), 0);
            for (int shift = -3; shift <= 3; shift++) {
                due("load", x.load(hold, 140, shift), 70);
                due("shift", x.hold(hold, 1), shift);
                due("list", x.count(2), 2 * shift);
            }
        }
        for (int wrong : new int[] {-4, 4, Integer.MIN_VALUE, Integer.MAX_VALUE}) {
            REFUSALS.due("shift " + wrong, Barges::lived, x -> x.load(1, 1, wrong), BAD_VALUE);
        }
    }

    private static void leastWeight() {
        BargeBallast x = Barges.open();
        due("weight", x.count(0), 560);
        Barges.workText(x, "e60");
        due("all is empty", x.count(6), 0);
        due("weight", x.count(0), 400);
        due("draught", x.count(3), 40);
        due("list", x.count(2), 0);
    }

    private static void greatestWeight() {
        BargeBallast x = Barges.open();
        x.set(0, 9);
        x.set(2, 200);
        Barges.workText(x, "f60;f60");
        due("all is full", x.count(6), 800);
        due("weight", x.count(0), 1200);
        due("load 0", x.load(0, 300, 0), 150);
        due("load 1", x.load(1, 300, 0), 180);
        due("load 2", x.load(2, 210, 0), NOT_POSSIBLE);
        due("load 2", x.load(2, 209, 0), 200);
        due("weight", x.count(0), 2009);
    }

    private static void trimIsCut() {
        int[] trims = {0, 0, 1, 1, 2, 2, 3};
        for (int load = 1; load < trims.length; load++) {
            BargeBallast x = new BargeBallast();
            x.load(2, load, 0);
            due("20 * " + load + " / 40", x.count(1), trims[load]);
            x.load(2, 0, 0);
            x.load(0, load, 0);
            due("-20 * " + load + " / 40", x.count(1), -trims[load]);
        }
        due("30 / 40", Barges.withWater(20, 20, 20, 20, 20, 20, 20, 21).count(1), 0);
        due("-30 / 40", Barges.withWater(21).count(1), 0);
        due("-40 / 40", Barges.withWater(21, 20, 21).count(1), -1);
    }

    private static void listIsCut() {
        int[][] rows = {{62, 0}, {63, 1}, {139, 1}, {140, 2}, {239, 2}, {240, 3}};
        for (int[] row : rows) {
            BargeBallast x = new BargeBallast();
            x.load(1, row[0], 1);
            due("10 * " + row[0] + " / (560 + " + row[0] + ")", x.count(2), row[1]);
            x.load(1, row[0], -1);
            due("-10 * " + row[0] + " / (560 + " + row[0] + ")", x.count(2), -row[1]);
        }
        BargeBallast x = Barges.withWater(10, 10);
        x.load(1, 59, 1);
        due("590 / 599", x.count(2), 0);
        x.load(1, 60, 1);
        due("600 / 600", x.count(2), 1);
        x.load(1, 60, -1);
        due("-600 / 600", x.count(2), -1);
    }

    private static void belowZero() {
        BargeBallast x = new BargeBallast();
        x.load(0, 140, -1);
        due("trim to the stern", x.count(1), -70);
        due("list to port", x.count(2), -2);
        x.load(0, 0, 0);
        x.load(2, 140, 1);
        due("trim to the bow", x.count(1), 70);
        due("list to starboard", x.count(2), 2);
    }

    private static void draughtIsRoundedDown() {
        BargeBallast x = new BargeBallast();
        due("560 / 10", x.count(3), 56);
        due("569 / 10", x.load(1, 9, 0), 56);
        due("count(3)", x.count(3), 56);
        due("570 / 10", x.load(1, 10, 0), 57);
        due("count(3)", x.count(3), 57);
        due("579 / 10", x.load(2, 9, 0), 57);
    }

    private static void loadTellsTheDraught() {
        BargeBallast x = new BargeBallast();
        due("load more", x.load(0, 240, 2), 80);
        due("a hold that has a load", x.load(0, 140, 2), 70);
        due("the shift alone", x.load(0, 140, -2), 70);
        due("load another", x.load(2, 100, 0), 80);
        due("count(3)", x.count(3), 80);
    }

    private static BargeBallast deepestIs60() {
        BargeBallast x = new BargeBallast();
        x.load(0, 40, 1);
        x.set(2, 60);
        return x;
    }

    private static void loadUpToTheDraught() {
        due("609: as deep as may be", deepestIs60().load(0, 49, 1), 60);
        REFUSALS.due("610: deeper", BargeEdgesTest::deepestIs60, x -> x.load(0, 50, 1),
                NOT_POSSIBLE);
        due("another hold, 609", deepestIs60().load(2, 9, 1), 60);
        REFUSALS.due("another hold, 610", BargeEdgesTest::deepestIs60, x -> x.load(2, 10, 1),
                NOT_POSSIBLE);
        BargeBallast x = new BargeBallast();
        x.load(0, 300, 0);
        x.load(1, 300, 0);
        due("1209 at the first setting", x.load(2, 49, 0), 120);
        due("1210 at the first setting", x.load(2, 50, 0), NOT_POSSIBLE);
    }

    private static BargeBallast tooDeep() {
        BargeBallast x = new BargeBallast();
        x.load(0, 149, 1);
        x.set(2, 60);
        return x;
    }

    private static void lessDeepThanNow() {
        due("draught", tooDeep().count(3), 70);
        REFUSALS.due("610, less deep than 709", BargeEdgesTest::tooDeep, x -> x.load(0, 50, 1),
                NOT_POSSIBLE);
        REFUSALS.due("the shift alone", BargeEdgesTest::tooDeep, x -> x.load(0, 149, 0),
                NOT_POSSIBLE);
        REFUSALS.due("another hold's shift", BargeEdgesTest::tooDeep, x -> x.load(1, 0, 1),
                NOT_POSSIBLE);
        due("609, less deep and deep enough", tooDeep().load(0, 49, 1), 60);
    }

    private static void loadedSoAlready() {
        REFUSALS.due("load(0, 0, 0)", BargeBallast::new, x -> x.load(0, 0, 0), NONE);
        REFUSALS.due("the same", BargeEdgesTest::deepestIs60, x -> x.load(0, 40, 1), NONE);
        REFUSALS.due("the same", Barges::lived, x -> x.load(2, 50, x.hold(2, 1)), NONE);
        due("another load", deepestIs60().load(0, 39, 1), 59);
        due("another shift", deepestIs60().load(0, 40, 2), 60);
        due("the shift of no load", deepestIs60().load(1, 0, -1), 60);
        due("another hold", deepestIs60().load(1, 1, 1), 60);
    }

    private static void loadAsksInOrder() {
        REFUSALS.due("hold and load", BargeEdgesTest::tooDeep, x -> x.load(3, 301, 0), UNKNOWN);
        REFUSALS.due("hold and shift", BargeEdgesTest::tooDeep, x -> x.load(-1, 0, 4), UNKNOWN);
        REFUSALS.due("hold and draught", BargeEdgesTest::tooDeep, x -> x.load(3, 300, 0), UNKNOWN);
        REFUSALS.due("load and draught", BargeEdgesTest::tooDeep, x -> x.load(1, 301, 0),
                BAD_VALUE);
        REFUSALS.due("shift and draught", BargeEdgesTest::tooDeep, x -> x.load(1, 300, -4),
                BAD_VALUE);
        REFUSALS.due("draught and sameness", BargeEdgesTest::tooDeep, x -> x.load(0, 149, 1),
                NOT_POSSIBLE);
    }

    private static void leakTellsThePrevious() {
        BargeBallast x = new BargeBallast();
        due("leak(6, 4)", x.leak(6, 4), 0);
        due("leak(6, 9)", x.leak(6, 9), 4);
        due("leak(7, 9)", x.leak(7, 9), 0);
        due("leak(6, 0)", x.leak(6, 0), 9);
    }

    private static void leaksSoAlready() {
        REFUSALS.due("leak(0, 0)", BargeBallast::new, x -> x.leak(0, 0), NONE);
        REFUSALS.due("leak(1, 4)", Barges::lived, x -> x.leak(1, 4), NONE);
        due("leak(1, 3)", Barges.lived().leak(1, 3), 4);
        due("leak(1, 5)", Barges.lived().leak(1, 5), 4);
    }

    private static void leakAsksInOrder() {
        REFUSALS.due("leak(8, 10)", Barges::lived, x -> x.leak(8, 10), UNKNOWN);
        REFUSALS.due("leak(-1, -1)", Barges::lived, x -> x.leak(-1, -1), UNKNOWN);
    }

    private static void groupSets() {
        for (int group = 0; group < 5; group++) {
            BargeBallast x = new BargeBallast();
            int first = x.group(group, 0);
            due("the least", x.setGroup(group, 1), first);
            due("254", x.setGroup(group, 254), 1);
            due("the greatest", x.setGroup(group, 255), 254);
            due("2", x.setGroup(group, 2), 255);
            due("group", x.group(group, 0), 2);
        }
        for (int wrong : new int[] {0, 256, -1, Integer.MIN_VALUE, Integer.MAX_VALUE}) {
            REFUSALS.due("set " + wrong, Barges::lived, x -> x.setGroup(2, wrong), BAD_VALUE);
        }
    }

    private static void groupStaysAsItIs() {
        BargeBallast x = new BargeBallast();
        due("a closed group", x.setGroup(3, 5), 192);
        due("stays closed", x.group(3, 1), 0);
        due("no tank is open", x.count(14), 0);
        Barges.workText(x, "o3");
        due("an open group", x.setGroup(3, 9), 5);
        due("stays open", x.group(3, 1), 1);
        due("with the new tanks alone", x.count(14), 9);
    }

    private static void groupIsSoAlready() {
        REFUSALS.due("setGroup(4, 255)", BargeBallast::new, x -> x.setGroup(4, 255), NONE);
        REFUSALS.due("setGroup(1, 13)", Barges::lived, x -> x.setGroup(1, 13), NONE);
        due("setGroup(1, 12)", Barges.lived().setGroup(1, 12), 13);
    }

    private static void setGroupAsksInOrder() {
        for (int wrong : new int[] {-1, 5, Integer.MIN_VALUE, Integer.MAX_VALUE}) {
            REFUSALS.due("set 1", Barges::lived, x -> x.setGroup(wrong, 1), UNKNOWN);
            REFUSALS.due("set 0", Barges::lived, x -> x.setGroup(wrong, 0), UNKNOWN);
            REFUSALS.due("set 256", Barges::lived, x -> x.setGroup(wrong, 256), UNKNOWN);
        }
    }

    private static void settingRange(int which, int least, int first, int most) {
        BargeBallast x = new BargeBallast();
        due("at first", x.count(16 + which), first);
        due("the least", x.set(which, least), first);
        due("one above the least", x.set(which, least + 1), least);
        due("one below the most", x.set(which, most - 1), least + 1);
        due("the most", x.set(which, most), most - 1);
        due("count", x.count(16 + which), most);
        int[] outside = {least - 1, most + 1, 0, -1, Integer.MIN_VALUE, Integer.MAX_VALUE};
        for (int wrong : outside) {
            REFUSALS.due("value " + wrong, Barges::lived, y -> y.set(which, wrong), BAD_VALUE);
        }
    }

    private static void whichSetting() {
        for (int wrong : new int[] {-1, 3, Integer.MIN_VALUE, Integer.MAX_VALUE}) {
            for (int value : new int[] {0, 1, 4, 12, 50, 120}) {
                REFUSALS.due("set " + wrong, Barges::lived, x -> x.set(wrong, value), BAD_VALUE);
            }
        }
    }

    private static void settingIsSoAlready() {
        REFUSALS.due("set(0, 4)", BargeBallast::new, x -> x.set(0, 4), NONE);
        REFUSALS.due("set(1, 12)", BargeBallast::new, x -> x.set(1, 12), NONE);
        REFUSALS.due("set(2, 120)", BargeBallast::new, x -> x.set(2, 120), NONE);
        REFUSALS.due("set(1, 2)", Barges::lived, x -> x.set(1, 2), NONE);
        REFUSALS.due("set(2, 130)", Barges::lived, x -> x.set(2, 130), NONE);
    }
}
