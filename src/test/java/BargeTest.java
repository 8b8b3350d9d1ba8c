/** Promises 1 to 5: a new object, load, leak, setGroup, set. */
public final class BargeTest {
    private static final Answers ANSWERS = new Answers();

    public static void main(String[] args) {
        newObject();
        loadAnswersTheDraught();
        loadRefusesWrongInputs();
        loadLooksAtTheDraughtBeforeSameness();
        leaks();
        groups();
        settings();
        ANSWERS.end();
    }

    private static void due(String call, long got, long want) {
        ANSWERS.due(call, got, want);
    }

    private static void newObject() {
        BargeBallast x = new BargeBallast();
        for (int tank = 0; tank < 8; tank++) {
            due("new: water", x.tank(tank, 0), 20);
            due("new: leak", x.tank(tank, 1), 0);
            due("new: open", x.tank(tank, 2), 0);
            due("new: groups", x.tank(tank, 3), 1 << (tank / 2) | 16);
            due("new: soundings", x.tank(tank, 4), 0);
            due("new: told loss", x.tank(tank, 5), -1005);
            due("new: lost", x.tank(tank, 6), 0);
        }
        for (int hold = 0; hold < 3; hold++) {
            due("new: load", x.hold(hold, 0), 0);
            due("new: shift", x.hold(hold, 1), 0);
        }
        int[] tanks = {3, 12, 48, 192, 255};
        int[] water = {40, 40, 40, 40, 160};
        for (int group = 0; group < 5; group++) {
            due("new: group's tanks", x.group(group, 0), tanks[group]);
            due("new: group is open", x.group(group, 1), 0);
            due("new: group's water", x.group(group, 2), water[group]);
        }
        int[] counts = {560, 0, 0, 56, 0, 0, 160, 0, 0, 0, 0, 0, 0, 0, 0, 0, 4, 12, 120, 0, 0};
        for (int what = 0; what < counts.length; what++) {
            due("new: count " + what, x.count(what), counts[what]);
        }
        due("new: waiting", x.waiting(0, 0), -1005);
        due("new: undo", x.undo(), -1005);
        due("new: restore", x.restore(), -1005);
        BargeBallast other = new BargeBallast();
        other.load(0, 10, 1);
        due("objects share nothing", x.hold(0, 0), 0);
    }

    private static void loadAnswersTheDraught() {
        BargeBallast x = new BargeBallast();
        due("load(0, 300, -3)", x.load(0, 300, -3), 86);
        due("load(1, 9, 3)", x.load(1, 9, 3), 86);
        due("load(2, 1, 0)", x.load(2, 1, 0), 87);
        due("hold(0, 0)", x.hold(0, 0), 300);
        due("hold(0, 1)", x.hold(0, 1), -3);
        due("hold(1, 1)", x.hold(1, 1), 3);
        due("load again: less", x.load(0, 0, 0), 57);
        due("load: the shift alone", x.load(1, 9, 2), 57);
        due("load: same", x.load(1, 9, 2), -1005);
        due("load: an empty hold's shift", x.load(0, 0, 2), 57);
        due("hold(0, 1)", x.hold(0, 1), 2);
        due("history", x.count(19), 4);
    }

    private static void loadRefusesWrongInputs() {
        BargeBallast x = new BargeBallast();
        due("load(-1, ..)", x.load(-1, 1, 0), -1001);
        due("load(3, ..)", x.load(3, 1, 0), -1001);
        due("load(3, -1, 9)", x.load(3, -1, 9), -1001);
        due("load(min, ..)", x.load(Integer.MIN_VALUE, 1, 0), -1001);
        due("load(0, -1, 0)", x.load(0, -1, 0), -1002);
        due("load(0, 301, 0)", x.load(0, 301, 0), -1002);
        due("load(0, max, 0)", x.load(0, Integer.MAX_VALUE, 0), -1002);
        due("load(0, 1, -4)", x.load(0, 1, -4), -1002);
        due("load(0, 1, 4)", x.load(0, 1, 4), -1002);
        due("nothing is recorded", x.count(19), 0);
        due("nothing is loaded", x.count(0), 560);
    }

    private static void loadLooksAtTheDraughtBeforeSameness() {
        BargeBallast x = new BargeBallast();
        x.set(2, 60);
        due("load to 609", x.load(0, 49, 0), 60);
        due("load to 610", x.load(0, 50, 0), -1004);
        due("load stays", x.hold(0, 0), 49);
        x.set(2, 50);
        due("less deep, still too deep", x.load(0, 0, 0), -1004);
        due("the same, too deep", x.load(0, 49, 0), -1004);
        due("wrong shift goes first", x.load(0, 49, 4), -1002);
        due("history", x.count(19), 3);
    }

    private static void leaks() {
        BargeBallast x = new BargeBallast();
        due("leak(7, 9)", x.leak(7, 9), 0);
        due("leak(7, 9) again", x.leak(7, 9), -1005);
        due("leak(7, 1)", x.leak(7, 1), 9);
        due("tank(7, 1)", x.tank(7, 1), 1);
        due("tank(6, 1)", x.tank(6, 1), 0);
        due("leak(0, 0)", x.leak(0, 0), -1005);
        due("leak(-1, 0)", x.leak(-1, 0), -1001);
        due("leak(8, 10)", x.leak(8, 10), -1001);
        due("leak(0, -1)", x.leak(0, -1), -1002);
        due("leak(0, 10)", x.leak(0, 10), -1002);
        due("history", x.count(19), 2);
        due("leak(7, 0)", x.leak(7, 0), 1);
    }

    private static void groups() {
        BargeBallast x = new BargeBallast();
        due("setGroup(4, 1)", x.setGroup(4, 1), 255);
        due("setGroup(4, 255)", x.setGroup(4, 255), 1);
        due("setGroup(4, 255) again", x.setGroup(4, 255), -1005);
        due("setGroup(0, 129)", x.setGroup(0, 129), 3);
        due("group(0, 0)", x.group(0, 0), 129);
        due("setGroup(-1, 1)", x.setGroup(-1, 1), -1001);
        due("setGroup(5, 0)", x.setGroup(5, 0), -1001);
        due("setGroup(0, 0)", x.setGroup(0, 0), -1002);
        due("setGroup(0, -1)", x.setGroup(0, -1), -1002);
        due("setGroup(0, 256)", x.setGroup(0, 256), -1002);
        due("history", x.count(19), 3);
        x.order(0, 0);
        x.work(1);
        due("open tanks", x.count(14), 129);
        due("setGroup of an open group", x.setGroup(0, 64), 129);
        due("it stays open", x.group(0, 1), 1);
        due("open tanks", x.count(14), 64);
        due("a closed group stays closed", x.group(4, 1), 0);
    }

    private static void settings() {
        int[] least = {1, 2, 50};
        int[] first = {4, 12, 120};
        int[] most = {9, 99, 200};
        for (int which = 0; which < 3; which++) {
            BargeBallast x = new BargeBallast();
            due("set " + which + " as it is", x.set(which, first[which]), -1005);
            due("set " + which + " below", x.set(which, least[which] - 1), -1002);
            due("set " + which + " above", x.set(which, most[which] + 1), -1002);
            due("history", x.count(19), 0);
            due("set " + which + " least", x.set(which, least[which]), first[which]);
            due("set " + which + " most", x.set(which, most[which]), least[which]);
            due("count", x.count(16 + which), most[which]);
            due("history", x.count(19), 2);
        }
        BargeBallast x = new BargeBallast();
        due("set(-1, 4)", x.set(-1, 4), -1002);
        due("set(3, 4)", x.set(3, 4), -1002);
        due("set(max, max)", x.set(Integer.MAX_VALUE, Integer.MAX_VALUE), -1002);
    }
}
