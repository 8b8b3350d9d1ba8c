import java.util.ArrayList;
import java.util.List;
import java.util.regex.Matcher;
import java.util.regex.Pattern;

/**
 * The document once more, written another way: with the library, with lists of small objects,
 * and by brute force. ModelTest compares the class with it.
 */
final class Model {
    private static final Pattern ORDERS =
            Pattern.compile("(([oc][0-4]|[fel]([1-9]|[1-5][0-9]|60))(;|$))+(?<!;)");

    private static final class Tank {
        int water = 20;
        int leak;
        int lost;
        boolean pumped;
        final List<int[]> soundings = new ArrayList<>();

        Tank copy() {
            Tank copy = new Tank();
            copy.water = water;
            copy.leak = leak;
            copy.lost = lost;
            copy.pumped = pumped;
            copy.soundings.addAll(soundings);
            return copy;
        }
    }

    private static final class World {
        final Tank[] tanks = new Tank[8];
        final int[][] holds = new int[3][2];
        final int[] groups = {3, 12, 48, 192, 255};
        final boolean[] open = new boolean[5];
        final int[] settings = {4, 12, 120};
        final List<int[]> row = new ArrayList<>();
        final int[] tally = new int[6];

        World() {
            for (int i = 0; i < 8; i++) {
                tanks[i] = new Tank();
            }
        }

        World copy() {
            World copy = new World();
            for (int i = 0; i < 8; i++) {
                copy.tanks[i] = tanks[i].copy();
            }
            for (int i = 0; i < 3; i++) {
                copy.holds[i] = holds[i].clone();
            }
            System.arraycopy(groups, 0, copy.groups, 0, 5);
            System.arraycopy(open, 0, copy.open, 0, 5);
            System.arraycopy(settings, 0, copy.settings, 0, 3);
            copy.row.addAll(row);
            System.arraycopy(tally, 0, copy.tally, 0, 6);
            return copy;
        }
    }

    private static final int MINUTE = 0;
    private static final int IN = 1;
    private static final int OUT = 2;
    private static final int LEVELLED = 3;
    private static final int REFUSED = 4;
    private static final int SHIFTED = 5;

    private World w = new World();
    private World kept;
    private final List<World> history = new ArrayList<>();
    private String text = "";

    private static boolean out(int value, int least, int most) {
        return value < least || value > most;
    }

    private void record() {
        history.add(w.copy());
        if (history.size() > 4) {
            history.remove(0);
        }
    }

    private int weight() {
        int sum = 400;
        for (Tank t : w.tanks) {
            sum += t.water;
        }
        for (int[] h : w.holds) {
            sum += h[0];
        }
        return sum;
    }

    private int trimMoment() {
        int sum = w.holds[2][0] * 20 - w.holds[0][0] * 20;
        for (int t = 0; t < 8; t++) {
            sum += w.tanks[t].water * (t / 2 * 20 - 30);
        }
        return sum;
    }

    private int listMoment() {
        int sum = 0;
        for (int t = 0; t < 8; t++) {
            sum += w.tanks[t].water * (t % 2 * 8 - 4);
        }
        for (int[] h : w.holds) {
            sum += h[0] * h[1];
        }
        return sum;
    }

    private int list() {
        return (int) (10.0 * listMoment() / weight());
    }

    private List<Tank> openTanks() {
        List<Tank> found = new ArrayList<>();
        for (int t = 0; t < 8; t++) {
            if ((openSet() & 1 << t) != 0) {
                found.add(w.tanks[t]);
            }
        }
        return found;
    }

    private int openSet() {
        int set = 0;
        for (int g = 0; g < 5; g++) {
            set |= w.open[g] ? w.groups[g] : 0;
        }
        return set;
    }

    int load(int hold, int load, int shift) {
        if (out(hold, 0, 2)) {
            return -1001;
        }
        if (out(load, 0, 300) || out(shift, -3, 3)) {
            return -1002;
        }
        int draught = (weight() + load - w.holds[hold][0]) / 10;
        if (draught > w.settings[2]) {
            return -1004;
        }
        if (w.holds[hold][0] == load && w.holds[hold][1] == shift) {
            return -1005;
        }
        record();
        w.holds[hold][0] = load;
        w.holds[hold][1] = shift;
        return draught;
    }

    int leak(int tank, int leak) {
        if (out(tank, 0, 7)) {
            return -1001;
        }
        if (out(leak, 0, 9)) {
            return -1002;
        }
        int was = w.tanks[tank].leak;
        if (was == leak) {
            return -1005;
        }
        record();
        w.tanks[tank].leak = leak;
        return was;
    }

    int setGroup(int group, int tanks) {
        if (out(group, 0, 4)) {
            return -1001;
        }
        if (out(tanks, 1, 255)) {
            return -1002;
        }
        int was = w.groups[group];
        if (was == tanks) {
            return -1005;
        }
        record();
        w.groups[group] = tanks;
        return was;
    }

    int set(int which, int value) {
        boolean right = which == 0 && !out(value, 1, 9) || which == 1 && !out(value, 2, 99)
                || which == 2 && !out(value, 50, 200);
        if (!right) {
            return -1002;
        }
        int was = w.settings[which];
        if (was == value) {
            return -1005;
        }
        record();
        w.settings[which] = value;
        return was;
    }

    int order(int kind, int by) {
        if (out(kind, 0, 4) || (kind < 2 ? out(by, 0, 4) : out(by, 1, 60))) {
            return -1002;
        }
        if (w.row.size() == 12) {
            return -1003;
        }
        record();
        w.row.add(new int[] {kind, by});
        return w.row.size();
    }

    /** The first place at which no text that is right can go on; the length if the end fails. */
    private int fault() {
        for (int i = 1; i <= text.length(); i++) {
            if (!canGoOn(text.substring(0, i))) {
                return i - 1;
            }
        }
        return ORDERS.matcher(text).matches() ? -1 : text.length();
    }

    private static boolean canGoOn(String start) {
        String[] ends = {"", "1", "o1", "0"};
        for (String end : ends) {
            Matcher matcher = ORDERS.matcher(start + end);
            if (matcher.matches()) {
                return true;
            }
        }
        return false;
    }

    int orderAll() {
        int fault = fault();
        if (fault >= 0) {
            return -2000 - fault;
        }
        String[] orders = text.split(";");
        if (w.row.size() + orders.length > 12) {
            return -1003;
        }
        record();
        for (String order : orders) {
            int kind = "ocfel".indexOf(order.charAt(0));
            w.row.add(new int[] {kind, Integer.parseInt(order.substring(1))});
        }
        return orders.length;
    }

    int strike(int kind) {
        if (out(kind, 0, 4)) {
            return -1002;
        }
        World before = w.copy();
        int length = w.row.size();
        w.row.removeIf(order -> order[0] == kind);
        if (w.row.size() == length) {
            return -1005;
        }
        World after = w;
        w = before;
        record();
        w = after;
        return length - w.row.size();
    }

    private int reason(int[] order) {
        if (order[0] < 2) {
            return w.open[order[1]] == (order[0] == 0) ? 1 : 0;
        }
        List<Tank> tanks = openTanks();
        if (tanks.isEmpty()) {
            return 2;
        }
        int most = 0;
        int least = 100;
        for (Tank t : tanks) {
            most = Math.max(most, t.water);
            least = Math.min(least, t.water);
        }
        if (order[0] == 2) {
            return least == 100 || (weight() + 1) / 10 > w.settings[2] ? 3 : 0;
        }
        if (order[0] == 3) {
            return most == 0 ? 4 : 0;
        }
        return most - least < 2 ? 5 : 0;
    }

    int work(int orders) {
        if (out(orders, 1, 12)) {
            return -1002;
        }
        if (w.row.isEmpty()) {
            return -1005;
        }
        record();
        int refused = 0;
        while (orders-- > 0 && !w.row.isEmpty()) {
            int[] order = w.row.remove(0);
            if (reason(order) != 0) {
                refused++;
            } else if (order[0] < 2) {
                w.open[order[1]] = order[0] == 0;
            } else {
                for (int m = 0; m < order[1]; m++) {
                    minute(order[0]);
                }
            }
        }
        w.tally[REFUSED] += refused;
        return refused;
    }

    private void minute(int kind) {
        w.tally[MINUTE]++;
        for (int unit = 0; unit < w.settings[0]; unit++) {
            unit(kind);
        }
        if (w.tally[MINUTE] % 10 == 0) {
            for (Tank t : w.tanks) {
                for (int i = 0; i < t.leak && t.water > 0; i++) {
                    t.water--;
                    t.lost++;
                }
            }
        }
        int list = list();
        if (Math.abs(list) > w.settings[1]) {
            for (int[] h : w.holds) {
                int shift = Math.max(-3, Math.min(3, h[1] + Integer.signum(list)));
                if (h[0] > 0 && shift != h[1]) {
                    h[1] = shift;
                    w.tally[SHIFTED]++;
                }
            }
        }
    }

    private void unit(int kind) {
        List<Tank> tanks = openTanks();
        if (kind == 0 || tanks.isEmpty()) {
            return;
        }
        Tank least = tanks.get(0);
        Tank most = tanks.get(0);
        for (Tank t : tanks) {
            least = t.water < least.water ? t : least;
            most = t.water > most.water ? t : most;
        }
        if (kind == 2 && least.water < 100 && (weight() + 1) / 10 <= w.settings[2]) {
            least.water++;
            least.pumped = true;
            w.tally[IN]++;
        } else if (kind == 3 && most.water > 0) {
            most.water--;
            most.pumped = true;
            w.tally[OUT]++;
        } else if (kind == 4 && most.water - least.water >= 2) {
            most.water--;
            least.water++;
            most.pumped = true;
            least.pumped = true;
            w.tally[LEVELLED]++;
        }
    }

    int pass(int minutes) {
        if (out(minutes, 1, 200)) {
            return -1002;
        }
        record();
        for (int m = 0; m < minutes; m++) {
            minute(0);
        }
        return list();
    }

    int sound(int tank) {
        if (out(tank, 0, 7)) {
            return -1001;
        }
        record();
        Tank t = w.tanks[tank];
        t.soundings.add(0, new int[] {w.tally[MINUTE], t.water, t.pumped ? 1 : 0});
        t.pumped = false;
        if (t.soundings.size() > 3) {
            t.soundings.remove(3);
        }
        return t.water;
    }

    int type(char character) {
        if (text.length() == 60) {
            return -1003;
        }
        text += character;
        return text.length();
    }

    int clearText() {
        int length = text.length();
        text = "";
        return length;
    }

    int undo() {
        if (history.isEmpty()) {
            return -1005;
        }
        w = history.remove(history.size() - 1);
        return history.size();
    }

    int keep() {
        kept = w.copy();
        return w.tally[MINUTE];
    }

    int restore() {
        if (kept == null) {
            return -1005;
        }
        record();
        w = kept.copy();
        return w.tally[MINUTE];
    }

    int tank(int tank, int what) {
        if (out(tank, 0, 7)) {
            return -1001;
        }
        if (out(what, 0, 6)) {
            return -1002;
        }
        Tank t = w.tanks[tank];
        int groups = 0;
        for (int g = 0; g < 5; g++) {
            groups |= (w.groups[g] >> tank) % 2 << g;
        }
        int told = -1005;
        if (t.soundings.size() > 1 && t.soundings.get(0)[2] == 0) {
            told = t.soundings.get(1)[1] - t.soundings.get(0)[1];
        }
        int[] told7 = {t.water, t.leak, openSet() >> tank & 1, groups, t.soundings.size(), told,
            t.lost};
        return told7[what];
    }

    int sounding(int tank, int back, boolean minute) {
        if (out(tank, 0, 7)) {
            return -1001;
        }
        if (back < 0) {
            return -1002;
        }
        List<int[]> soundings = w.tanks[tank].soundings;
        return back < soundings.size() ? soundings.get(back)[minute ? 0 : 1] : -1005;
    }

    int hold(int hold, int what) {
        if (out(hold, 0, 2)) {
            return -1001;
        }
        return out(what, 0, 1) ? -1002 : w.holds[hold][what];
    }

    int group(int group, int what) {
        if (out(group, 0, 4)) {
            return -1001;
        }
        if (out(what, 0, 2)) {
            return -1002;
        }
        int water = 0;
        for (int t = 0; t < 8; t++) {
            water += (w.groups[group] >> t) % 2 * w.tanks[t].water;
        }
        return what == 0 ? w.groups[group] : what == 1 ? (w.open[group] ? 1 : 0) : water;
    }

    int waiting(int place, int what) {
        if (place < 0 || out(what, 0, 2)) {
            return -1002;
        }
        if (place >= w.row.size()) {
            return -1005;
        }
        int[] order = w.row.get(place);
        return what == 2 ? reason(order) : order[what];
    }

    int trimMoment(int point) {
        return out(point, -50, 50) ? -1002 : trimMoment();
    }

    int upright(int units, int what) {
        if (out(units, 1, 100) || out(what, 0, 2)) {
            return -1002;
        }
        int[] best = {0, 0, list()};
        int bestKey = Math.abs(best[2]) * 100000;
        for (int t = 0; t < 8; t++) {
            Tank tank = w.tanks[t];
            int water = tank.water;
            for (int change = -units; change <= units; change++) {
                tank.water = water + change;
                if (change != 0 && !out(tank.water, 0, 100)) {
                    int list = list();
                    int key = Math.abs(list) * 100000 + Math.abs(change) * 100 + t * 10
                            + (change > 0 ? 0 : 1);
                    if (Math.abs(list) < Math.abs(best[2]) || best[1] != 0 && key < bestKey) {
                        bestKey = key;
                        best = new int[] {t, change, list};
                    }
                }
            }
            tank.water = water;
        }
        return best[what];
    }

    int count(int what) {
        int water = 0;
        int lost = 0;
        for (Tank t : w.tanks) {
            water += t.water;
            lost += t.lost;
        }
        int[] told = {weight(), (int) (trimMoment() / 40.0), list(), weight() / 10, trimMoment(),
            listMoment(), water, w.tally[MINUTE], w.tally[IN], w.tally[OUT], lost,
            w.tally[LEVELLED], w.row.size(), w.tally[REFUSED], openSet(), w.tally[SHIFTED],
            w.settings[0], w.settings[1], w.settings[2], history.size(), text.length()};
        return out(what, 0, 20) ? -1002 : told[what];
    }
}
