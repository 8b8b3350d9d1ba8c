/** Promises 17, 19, 20 and 22 to 24: tank, hold, group, trimMoment, upright, count. */
public final class ToldTest {
    private static final Answers ANSWERS = new Answers();

    public static void main(String[] args) {
        tanks();
        holds();
        groups();
        armsOfTanks();
        armsOfHolds();
        trimAndListAreCutTowardZero();
        trimMomentAboutAnyPoint();
        uprightInputs();
        uprightTakesTheFewestUnits();
        uprightPrefersTheLowestTankBehindTheFewestUnits();
        uprightKeepsToRoomAndWater();
        uprightTakesOut();
        uprightDoesNotLookAtTheDraught();
        counts();
        ANSWERS.end();
    }

    private static void due(String call, long got, long want) {
        ANSWERS.due(call, got, want);
    }

    private static void tanks() {
        BargeBallast x = new BargeBallast();
        due("tank(-1, 0)", x.tank(-1, 0), -1001);
        due("tank(8, 9)", x.tank(8, 9), -1001);
        due("tank(0, -1)", x.tank(0, -1), -1002);
        due("tank(7, 7)", x.tank(7, 7), -1002);
        x.setGroup(2, 0b10000001);
        due("groups with 0", x.tank(0, 3), 0b10101);
        due("groups with 4", x.tank(4, 3), 0b10000);
        x.setGroup(4, 1);
        due("groups with 4", x.tank(4, 3), 0);
        Barges.workText(x, "o0;o2");
        due("open", x.count(14), 0b10000011);
        due("tank 0 is open", x.tank(0, 2), 1);
        due("tank 1 is open", x.tank(1, 2), 1);
        due("tank 4 is not", x.tank(4, 2), 0);
        due("tank 7 is open", x.tank(7, 2), 1);
        Barges.workText(x, "c0");
        due("tank 0 is open by the group 2", x.tank(0, 2), 1);
        due("tank 1 is not", x.tank(1, 2), 0);
    }

    private static void holds() {
        BargeBallast x = new BargeBallast();
        x.load(2, 77, -2);
        due("hold(2, 0)", x.hold(2, 0), 77);
        due("hold(2, 1)", x.hold(2, 1), -2);
        due("hold(-1, 0)", x.hold(-1, 0), -1001);
        due("hold(3, 5)", x.hold(3, 5), -1001);
        due("hold(0, -1)", x.hold(0, -1), -1002);
        due("hold(0, 2)", x.hold(0, 2), -1002);
    }

    private static void groups() {
        BargeBallast x = new BargeBallast();
        Barges.openOnly(x, 0, 0b11);
        Barges.workText(x, "f5");
        due("water of 0", x.group(0, 2), 60);
        due("water of 4", x.group(4, 2), 180);
        x.setGroup(3, 0b10000001);
        due("water of 3", x.group(3, 2), 50);
        due("group(-1, 0)", x.group(-1, 0), -1001);
        due("group(5, 9)", x.group(5, 9), -1001);
        due("group(0, -1)", x.group(0, -1), -1002);
        due("group(4, 3)", x.group(4, 3), -1002);
    }

    private static void armsOfTanks() {
        int[] arms = {-30, -30, -10, -10, 10, 10, 30, 30};
        for (int tank = 0; tank < 8; tank++) {
            BargeBallast x = new BargeBallast();
            x.set(0, 5);
            Barges.openOnly(x, 0, 1 << tank);
            Barges.workText(x, "f1");
            due("trim moment", x.count(4), 5 * arms[tank]);
            due("list moment", x.count(5), tank % 2 == 0 ? -20 : 20);
            due("weight", x.count(0), 565);
        }
    }

    private static void armsOfHolds() {
        int[] arms = {-20, 0, 20};
        for (int hold = 0; hold < 3; hold++) {
            for (int shift = -3; shift <= 3; shift++) {
                BargeBallast x = new BargeBallast();
                x.load(hold, 7, shift);
                due("trim moment", x.count(4), 7 * arms[hold]);
                due("list moment", x.count(5), 7 * shift);
                due("weight", x.count(0), 567);
                due("draught", x.count(3), 56);
            }
        }
    }

    private static void trimAndListAreCutTowardZero() {
        BargeBallast x = new BargeBallast();
        x.load(0, 3, -3);
        due("-60 / 40", x.count(1), -1);
        due("-90 / 563", x.count(2), 0);
        x.load(0, 0, 0);
        x.load(2, 3, 3);
        due("60 / 40", x.count(1), 1);
        x.load(2, 99, 1);
        due("990 / 659", x.count(2), 1);
        due("1980 / 40", x.count(1), 49);
        x.load(2, 99, -1);
        due("-990 / 659", x.count(2), -1);
        due("draught", x.count(3), 65);
    }

    private static void trimMomentAboutAnyPoint() {
        BargeBallast x = new BargeBallast();
        x.load(0, 120, 1);
        x.load(2, 31, 1);
        Barges.openOnly(x, 1, 0b10100000);
        Barges.workText(x, "f9");
        for (int point = -50; point <= 50; point++) {
            due("trimMoment(" + point + ")", x.trimMoment(point), -2400 + 620 + 18 * 10 + 18 * 30);
        }
        due("count(4)", x.count(4), -1060);
        due("count(1)", x.count(1), -26);
        due("trimMoment(-51)", x.trimMoment(-51), -1002);
        due("trimMoment(51)", x.trimMoment(51), -1002);
    }

    private static void best(String when, BargeBallast x, int units, int tank, int change, int list) {
        due(when + ": tank", x.upright(units, 0), tank);
        due(when + ": units", x.upright(units, 1), change);
        due(when + ": list", x.upright(units, 2), list);
    }

    private static void uprightInputs() {
        BargeBallast x = new BargeBallast();
        due("upright(0, 0)", x.upright(0, 0), -1002);
        due("upright(101, 0)", x.upright(101, 0), -1002);
        due("upright(-1, 0)", x.upright(-1, 0), -1002);
        due("upright(1, -1)", x.upright(1, -1), -1002);
        due("upright(1, 3)", x.upright(1, 3), -1002);
        best("upright already", x, 100, 0, 0, 0);
        x.load(0, 300, 3);
        best("nothing is better with 1 unit", x, 1, 0, 0, 10);
    }

    private static void uprightTakesTheFewestUnits() {
        BargeBallast x = new BargeBallast();
        x.load(1, 100, 1);
        due("1000 / 660", x.count(2), 1);
        best("(1000 - 40 u) / (660 + u) below 1", x, 100, 0, 9, 0);
        best("at most 9", x, 9, 0, 9, 0);
        best("at most 8", x, 8, 0, 0, 1);
        x.load(1, 20, 3);
        best("600 / 580, and 560 / 581 with one unit", x, 100, 0, 1, 0);
        best("at most 1", x, 1, 0, 1, 0);
    }

    private static void uprightPrefersTheLowestTankBehindTheFewestUnits() {
        BargeBallast x = new BargeBallast();
        x.load(1, 100, -1);
        due("-1000 / 660", x.count(2), -1);
        best("9 out of 0 or into 1, 3, ..: the lowest tank", x, 100, 0, -9, 0);
        x.load(1, 166, -1);
        due("-1660 / 726", x.count(2), -2);
        best("5 into 1, but 6 out of 0: the fewest units", x, 8, 1, 5, -1);
    }

    private static void uprightKeepsToRoomAndWater() {
        BargeBallast x = new BargeBallast();
        x.set(0, 9);
        x.set(2, 200);
        Barges.openOnly(x, 0, 0b01);
        Barges.workText(x, "f60;c0");
        Barges.openOnly(x, 0, 0b10);
        Barges.workText(x, "f60;c0");
        x.load(1, 300, 3);
        due("9000 / 1020", x.count(2), 8);
        due("tank 0 is full", x.tank(0, 0), 100);
        best("tank 0 has no room, 85 out of 1 are more", x, 100, 2, 63, 5);
        BargeBallast y = new BargeBallast();
        Barges.openOnly(y, 0, 0b10);
        Barges.workText(y, "e5;c0");
        Barges.openOnly(y, 0, 0b01);
        Barges.workText(y, "e5;c0");
        y.load(1, 200, 3);
        due("tank 1 is empty", y.tank(1, 0), 0);
        best("the others have room for 80 alone", y, 100, 0, 90, 2);
        BargeBallast z = new BargeBallast();
        z.load(1, 131, 3);
        due("3930 / 691", z.count(2), 5);
        best("80 fill it, and 730 / 771 is below 1", z, 100, 0, 80, 0);
    }

    private static void uprightTakesOut() {
        BargeBallast x = Barges.open();
        x.set(0, 9);
        x.set(2, 200);
        Barges.workText(x, "f60;f60");
        due("all tanks are full", x.count(6), 800);
        x.load(1, 300, 3);
        due("9000 / 1500", x.count(2), 6);
        best("out of 1", x, 100, 1, -84, 3);
        x.load(1, 300, -3);
        best("out of 0", x, 100, 0, -84, -3);
        BargeBallast y = Barges.open();
        y.set(0, 5);
        y.set(2, 200);
        Barges.workText(y, "f60;f60;f60;c4");
        Barges.openOnly(y, 0, 0b01010101);
        Barges.workText(y, "e44");
        due("four times 45 and 100", y.count(6), 580);
        y.load(0, 300, -3);
        y.load(1, 300, -3);
        y.load(2, 10, -3);
        due("-9500 / 1590", y.count(2), -5);
        best("45 empty it: -7700 / 1545", y, 100, 0, -45, -4);
    }

    private static void uprightDoesNotLookAtTheDraught() {
        BargeBallast x = new BargeBallast();
        x.load(1, 100, 1);
        x.set(2, 50);
        best("too deep already", x, 100, 0, 9, 0);
    }

    private static void counts() {
        BargeBallast x = new BargeBallast();
        due("count(-1)", x.count(-1), -1002);
        due("count(21)", x.count(21), -1002);
        due("count(max)", x.count(Integer.MAX_VALUE), -1002);
        x.set(0, 7);
        x.set(1, 2);
        x.set(2, 200);
        x.leak(2, 3);
        x.leak(4, 2);
        x.load(1, 300, 2);
        Barges.type(x, "f9;o0;f2;e1;o0");
        x.orderAll();
        x.work(12);
        Barges.type(x, "c0;c0;f60");
        x.pass(17);
        x.orderAll();
        int[] want = {857, -4, 11, 85, -190, 944, 157, 20, 14, 7, 10, 0, 3, 2, 3, 1, 7, 2,
                200, 4, 9};
        for (int what = 0; what < want.length; what++) {
            due("count(" + what + ")", x.count(what), want[what]);
        }
    }
}
