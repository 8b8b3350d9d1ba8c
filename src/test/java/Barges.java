/** Barges in states that several tests start from. */
final class Barges {
    private Barges() {
    }

    static void type(BargeBallast barge, String text) {
        barge.clearText();
        for (int i = 0; i < text.length(); i++) {
            barge.type(text.charAt(i));
        }
    }

    /** Types the text, puts its orders into the row and works them all off. */
    static int workText(BargeBallast barge, String text) {
        type(barge, text);
        int orders = barge.orderAll();
        return orders < 0 ? orders : barge.work(12);
    }

    /** A barge with the group 4, which is all tanks, open. */
    static BargeBallast open() {
        BargeBallast barge = new BargeBallast();
        barge.order(0, 4);
        barge.work(1);
        return barge;
    }

    /** Leaves the water as it is, but makes the group the tanks and opens it. */
    static void openOnly(BargeBallast barge, int group, int tanks) {
        barge.setGroup(group, tanks);
        barge.order(0, group);
        barge.work(12);
    }

    /** All that the barge tells of its state, so that two states can be compared. */
    static String toldState(BargeBallast barge) {
        StringBuilder told = new StringBuilder();
        for (int tank = 0; tank < 8; tank++) {
            for (int what = 0; what <= 6; what++) {
                told.append(barge.tank(tank, what)).append(' ');
            }
            for (int back = 0; back < 3; back++) {
                told.append(barge.sounding(tank, back, true)).append('/');
                told.append(barge.sounding(tank, back, false)).append(' ');
            }
        }
        for (int hold = 0; hold < 3; hold++) {
            told.append(barge.hold(hold, 0)).append('/').append(barge.hold(hold, 1)).append(' ');
        }
        for (int group = 0; group < 5; group++) {
            for (int what = 0; what <= 2; what++) {
                told.append(barge.group(group, what)).append(' ');
            }
        }
        for (int place = 0; place < 13; place++) {
            for (int what = 0; what <= 2; what++) {
                told.append(barge.waiting(place, what)).append(' ');
            }
        }
        for (int what = 0; what <= 18; what++) {
            told.append(barge.count(what)).append(' ');
        }
        return told.toString();
    }
}
