/** Barges in states that several tests start from. */
final class Barges {
    static final int ACTS = 11;

    private Barges() {
    }

    static void type(BargeBallast barge, String text) {
        barge.clearText();
        for (int i = 0; i < text.length(); i++) {
            barge.type(text.charAt(i));
        }
    }

    /** Types the text, puts its orders into the row and works them all off. */
    static int workText(BargeBallast barge, String text) {
        type(barge, text);
        int orders = barge.orderAll();
        return orders < 0 ? orders : barge.work(12);
    }

    /** A barge with the group 4, which is all tanks, open. */
    static BargeBallast open() {
        BargeBallast barge = new BargeBallast();
        barge.order(0, 4);
        barge.work(1);
        return barge;
    }

    /**
     * A barge of which every part of the state has been changed; the history is full, the
     * snapshot is of another state, the text has orders, and some wait.
     */
    static BargeBallast lived() {
        BargeBallast barge = open();
        barge.load(0, 100, 3);
        barge.load(2, 50, 2);
        barge.leak(1, 4);
        barge.set(1, 2);
        barge.set(2, 130);
        barge.setGroup(1, 13);
        workText(barge, "c4;o1;f7;e2;o1;l1;c1;o3");
        barge.sound(1);
        barge.keep();
        barge.pass(15);
        barge.sound(1);
        type(barge, "f5;c2;o0;l3");
        barge.orderAll();
        return barge;
    }

    /** Each kind of act once, by its number; a barge that has lived can do them all. */
    static int act(BargeBallast barge, int number) {
        switch (number) {
            case 0: return barge.load(1, 60, -2);
            case 1: return barge.leak(1, 9);
            case 2: return barge.setGroup(3, 7);
            case 3: return barge.set(0, 9);
            case 4: return barge.order(3, 9);
            case 5: return barge.orderAll();
            case 6: return barge.strike(1);
            case 7: return barge.work(4);
            case 8: return barge.pass(25);
            case 9: return barge.sound(1);
            default: return barge.restore();
        }
    }

    /** As new, but for this water in the tanks from 0 on, and the time and river it took. */
    static BargeBallast withWater(int... water) {
        BargeBallast barge = new BargeBallast();
        barge.set(0, 1);
        barge.set(2, 200);
        for (int tank = 0; tank < water.length; tank++) {
            int units = water[tank] - barge.tank(tank, 0);
            if (units != 0) {
                barge.setGroup(0, 1 << tank);
                workText(barge, "o0;" + pumping(units) + ";c0");
            }
        }
        barge.clearText();
        barge.setGroup(0, 3);
        barge.set(0, 4);
        barge.set(2, 120);
        return barge;
    }

    /** The orders that move so many units at a rate of 1; below 0 into the river. */
    private static String pumping(int units) {
        String kind = units < 0 ? "e" : "f";
        int minutes = Math.abs(units);
        return minutes <= 60 ? kind + minutes : kind + "60;" + kind + (minutes - 60);
    }

    /** Lets time pass until the last digit of the minute is this one; at least one minute. */
    static void passToDigit(BargeBallast barge, int digit) {
        barge.pass(Math.floorMod(digit - barge.count(7) - 1, 10) + 1);
    }

    /** A barge in which one tank alone is open, with room under the deepest draught. */
    static BargeBallast alone(int tank, int rate) {
        BargeBallast barge = new BargeBallast();
        barge.set(0, rate);
        barge.set(2, 200);
        openOnly(barge, 0, 1 << tank);
        return barge;
    }

    /** Leaves the water as it is, but makes the group the tanks and opens it. */
    static void openOnly(BargeBallast barge, int group, int tanks) {
        barge.setGroup(group, tanks);
        barge.order(0, group);
        barge.work(12);
    }

    /** All that the barge tells of its state, so that two states can be compared. */
    static String toldState(BargeBallast barge) {
        StringBuilder told = new StringBuilder();
        for (int tank = 0; tank < 8; tank++) {
            for (int what = 0; what <= 6; what++) {
                told.append(barge.tank(tank, what)).append(' ');
            }
            for (int back = 0; back < 3; back++) {
                told.append(barge.sounding(tank, back, true)).append('/');
                told.append(barge.sounding(tank, back, false)).append(' ');
            }
        }
        for (int hold = 0; hold < 3; hold++) {
            told.append(barge.hold(hold, 0)).append('/').append(barge.hold(hold, 1)).append(' ');
        }
        for (int group = 0; group < 5; group++) {
            for (int what = 0; what <= 2; what++) {
                told.append(barge.group(group, what)).append(' ');
            }
        }
        for (int place = 0; place < 13; place++) {
            for (int what = 0; what <= 2; what++) {
                told.append(barge.waiting(place, what)).append(' ');
            }
        }
        for (int what = 0; what <= 18; what++) {
            told.append(barge.count(what)).append(' ');
        }
        return told.toString();
    }
}
