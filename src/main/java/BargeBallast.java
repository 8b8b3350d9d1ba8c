/** The ballast of a barge: its tanks, valves, pump, cargo, orders and soundings. */
public final class BargeBallast {
    /** There is no such tank, hold or group. */
    public static final int UNKNOWN = -1001;
    /** Another argument is out of range. */
    public static final int BAD_VALUE = -1002;
    /** There is no more room. */
    public static final int FULL = -1003;
    /** This is not possible. */
    public static final int NOT_POSSIBLE = -1004;
    /** There is no such thing; not an error. */
    public static final int NONE = -1005;

    private static final int TANKS = 8;
    private static final int NO_TANK = -1;
    private static final int TANK_ROOM = 100;
    private static final int FIRST_WATER = 20;
    private static final int LEAK_LIMIT = 9;
    private static final int LEAK_EVERY = 10;

    private static final int HOLDS = 3;
    private static final int LOAD_LIMIT = 300;
    private static final int SHIFT_LIMIT = 3;

    private static final int[] SECTION_ARM = {-30, -10, 10, 30};
    private static final int[] SIDE_ARM = {-4, 4};
    private static final int[] HOLD_ARM = {-20, 0, 20};
    private static final int EMPTY_WEIGHT = 400;
    private static final int POINT_LIMIT = 50;

    private static final int GROUPS = 5;
    private static final int ALL_TANKS = 255;
    private static final int[] FIRST_TANKS = {3, 12, 48, 192, ALL_TANKS};

    private static final int SETTINGS = 3;
    private static final int RATE = 0;
    private static final int SHIFTING_LIST = 1;
    private static final int DEEPEST = 2;
    private static final int[] LEAST_SETTING = {1, 2, 50};
    private static final int[] FIRST_SETTING = {4, 12, 120};
    private static final int[] MOST_SETTING = {9, 99, 200};

    private static final int KINDS = 5;
    private static final int NO_KIND = -1;
    private static final int OPEN = 0;
    private static final int CLOSE = 1;
    private static final int FILL = 2;
    private static final int EMPTY = 3;
    private static final int LEVEL = 4;
    /** The pump's modes are the kinds of order that pump, and this one, which is no kind. */
    private static final int PUMP_OFF = -1;
    private static final int MINUTES_LIMIT = 60;
    private static final int PASS_LIMIT = 200;

    private static final int ROW_LIMIT = 12;
    private static final int SOUNDINGS_LIMIT = 3;
    private static final int HISTORY_LIMIT = 4;
    private static final int TEXT_LIMIT = 60;
    private static final int NO_FAULT = -1;
    private static final int FAULT_BASE = -2000;

    private final State now = new State();
    private final History history = new History();
    private final int[] snapshot = new int[State.SIZE];
    private boolean hasSnapshot;
    private final OrderText text = new OrderText();

    /** Creates a barge with 20 units in each tank. */
    public BargeBallast() {
    }

    // ---- the barge

    public int load(int hold, int load, int shift) {
        if (!isWithin(hold, 0, HOLDS - 1)) {
            return UNKNOWN;
        }
        if (!isWithin(load, 0, LOAD_LIMIT) || !isWithin(shift, -SHIFT_LIMIT, SHIFT_LIMIT)) {
            return BAD_VALUE;
        }
        int loadNow = now.at(State.LOAD + hold);
        int draught = State.draughtOf(now.weight() - loadNow + load);
        if (draught > now.at(State.SETTING + DEEPEST)) {
            return NOT_POSSIBLE;
        }
        if (loadNow == load && now.at(State.SHIFT + hold) == shift) {
            return NONE;
        }
        history.record(now);
        now.put(State.LOAD + hold, load);
        now.put(State.SHIFT + hold, shift);
        return draught;
    }

    public int leak(int tank, int leak) {
        if (!isWithin(tank, 0, TANKS - 1)) {
            return UNKNOWN;
        }
        if (!isWithin(leak, 0, LEAK_LIMIT)) {
            return BAD_VALUE;
        }
        return change(State.LEAK + tank, leak);
    }

    public int setGroup(int group, int tanks) {
        if (!isWithin(group, 0, GROUPS - 1)) {
            return UNKNOWN;
        }
        if (!isWithin(tanks, 1, ALL_TANKS)) {
            return BAD_VALUE;
        }
        return change(State.GROUP_TANKS + group, tanks);
    }

    public int set(int which, int value) {
        if (!isWithin(which, 0, SETTINGS - 1)
                || !isWithin(value, LEAST_SETTING[which], MOST_SETTING[which])) {
            return BAD_VALUE;
        }
        return change(State.SETTING + which, value);
    }

    // ---- orders

    public int order(int kind, int by) {
        if (!isWithin(kind, 0, KINDS - 1) || !isRightBy(kind, by)) {
            return BAD_VALUE;
        }
        if (now.at(State.ROW_LENGTH) >= ROW_LIMIT) {
            return FULL;
        }
        history.record(now);
        OrderRow.append(now, kind, by);
        return now.at(State.ROW_LENGTH);
    }

    public int orderAll() {
        int fault = text.read();
        if (fault != NO_FAULT) {
            return FAULT_BASE - fault;
        }
        int orders = text.orders();
        if (now.at(State.ROW_LENGTH) + orders > ROW_LIMIT) {
            return FULL;
        }
        history.record(now);
        for (int place = 0; place < orders; place++) {
            OrderRow.append(now, text.kindOf(place), text.byOf(place));
        }
        return orders;
    }

    public int strike(int kind) {
        if (!isWithin(kind, 0, KINDS - 1)) {
            return BAD_VALUE;
        }
        if (!OrderRow.has(now, kind)) {
            return NONE;
        }
        history.record(now);
        return OrderRow.strikeOut(now, kind);
    }

    public int work(int orders) {
        if (!isWithin(orders, 1, ROW_LIMIT)) {
            return BAD_VALUE;
        }
        if (now.at(State.ROW_LENGTH) == 0) {
            return NONE;
        }
        history.record(now);
        int refusedBefore = now.at(State.REFUSED);
        for (int done = 0; done < orders; done++) {
            OrderRow.workFirst(now);
        }
        return now.at(State.REFUSED) - refusedBefore;
    }

    public int pass(int minutes) {
        if (!isWithin(minutes, 1, PASS_LIMIT)) {
            return BAD_VALUE;
        }
        history.record(now);
        Minutes.run(now, PUMP_OFF, minutes);
        return now.list();
    }

    public int sound(int tank) {
        if (!isWithin(tank, 0, TANKS - 1)) {
            return UNKNOWN;
        }
        history.record(now);
        Soundings.put(now, tank);
        return now.at(State.WATER + tank);
    }

    // ---- texts

    public int type(char character) {
        return text.add(character) ? text.length() : FULL;
    }

    public int clearText() {
        int length = text.length();
        text.clear();
        return length;
    }

    // ---- history

    public int undo() {
        if (history.length() == 0) {
            return NONE;
        }
        history.bringBack(now);
        return history.length();
    }

    public int keep() {
        now.copyTo(snapshot);
        hasSnapshot = true;
        return now.at(State.MINUTES);
    }

    public int restore() {
        if (!hasSnapshot) {
            return NONE;
        }
        history.record(now);
        now.copyFrom(snapshot);
        return now.at(State.MINUTES);
    }

    // ---- what is told

    public int tank(int tank, int what) {
        if (!isWithin(tank, 0, TANKS - 1)) {
            return UNKNOWN;
        }
        switch (what) {
            case 0: return now.at(State.WATER + tank);
            case 1: return now.at(State.LEAK + tank);
            case 2: return State.isIn(now.openTanks(), tank) ? 1 : 0;
            case 3: return now.groupsWith(tank);
            case 4: return now.at(State.SOUNDINGS + tank);
            case 5: return Soundings.isLossTold(now, tank) ? Soundings.loss(now, tank) : NONE;
            case 6: return now.at(State.LOST + tank);
            default: return BAD_VALUE;
        }
    }

    public int sounding(int tank, int back, boolean minute) {
        if (!isWithin(tank, 0, TANKS - 1)) {
            return UNKNOWN;
        }
        if (back < 0) {
            return BAD_VALUE;
        }
        if (back >= now.at(State.SOUNDINGS + tank)) {
            return NONE;
        }
        int cells = minute ? State.SOUNDED_MINUTE : State.SOUNDED_WATER;
        return now.at(cells + Soundings.place(tank, back));
    }

    public int hold(int hold, int what) {
        if (!isWithin(hold, 0, HOLDS - 1)) {
            return UNKNOWN;
        }
        switch (what) {
            case 0: return now.at(State.LOAD + hold);
            case 1: return now.at(State.SHIFT + hold);
            default: return BAD_VALUE;
        }
    }

    public int group(int group, int what) {
        if (!isWithin(group, 0, GROUPS - 1)) {
            return UNKNOWN;
        }
        switch (what) {
            case 0: return now.at(State.GROUP_TANKS + group);
            case 1: return now.at(State.GROUP_OPEN + group);
            case 2: return now.waterIn(now.at(State.GROUP_TANKS + group));
            default: return BAD_VALUE;
        }
    }

    public int waiting(int place, int what) {
        if (place < 0 || !isWithin(what, 0, 2)) {
            return BAD_VALUE;
        }
        if (place >= now.at(State.ROW_LENGTH)) {
            return NONE;
        }
        int kind = now.at(State.ROW_KIND + place);
        int by = now.at(State.ROW_BY + place);
        switch (what) {
            case 0: return kind;
            case 1: return by;
            default: return OrderRow.reasonToRefuse(now, kind, by);
        }
    }

    public int trimMoment(int point) {
        if (!isWithin(point, -POINT_LIMIT, POINT_LIMIT)) {
            return BAD_VALUE;
        }
        return now.trimMomentAbout(point);
    }

    public int upright(int units, int what) {
        if (!isWithin(units, 1, TANK_ROOM) || !isWithin(what, 0, 2)) {
            return BAD_VALUE;
        }
        Uprighting best = new Uprighting(now, units);
        switch (what) {
            case 0: return best.tank;
            case 1: return best.change;
            default: return best.list;
        }
    }

    public int count(int what) {
        switch (what) {
            case 0: return now.weight();
            case 1: return now.trim();
            case 2: return now.list();
            case 3: return State.draughtOf(now.weight());
            case 4: return now.trimMomentAbout(0);
            case 5: return now.listMoment();
            case 6: return now.waterIn(ALL_TANKS);
            case 7: return now.at(State.MINUTES);
            case 8: return now.at(State.FROM_RIVER);
            case 9: return now.at(State.INTO_RIVER);
            case 10: return now.lostByLeaks();
            case 11: return now.at(State.LEVELLED);
            case 12: return now.at(State.ROW_LENGTH);
            case 13: return now.at(State.REFUSED);
            case 14: return now.openTanks();
            case 15: return now.at(State.SHIFTS);
            case 16: return now.at(State.SETTING + RATE);
            case 17: return now.at(State.SETTING + SHIFTING_LIST);
            case 18: return now.at(State.SETTING + DEEPEST);
            case 19: return history.length();
            case 20: return text.length();
            default: return BAD_VALUE;
        }
    }

    // ---- helpers

    private static boolean isWithin(int value, int least, int most) {
        return value >= least && value <= most;
    }

    private static boolean isRightBy(int kind, int by) {
        return isValve(kind) ? isWithin(by, 0, GROUPS - 1) : isWithin(by, 1, MINUTES_LIMIT);
    }

    private static boolean isValve(int kind) {
        return kind == OPEN || kind == CLOSE;
    }

    /** The act of a call that changes one number, and answers what it was. */
    private int change(int cell, int value) {
        int previous = now.at(cell);
        if (previous == value) {
            return NONE;
        }
        history.record(now);
        now.put(cell, value);
        return previous;
    }

    /**
     * All that undo and restore bring back. It stands in one row of numbers, so that one copy
     * keeps it whole and no part can be forgotten.
     */
    private static final class State {
        static final int WATER = 0;
        static final int LEAK = WATER + TANKS;
        static final int LOST = LEAK + TANKS;
        /** How often the pump moved a unit into or out of the tank. */
        static final int PUMPED = LOST + TANKS;
        static final int SOUNDINGS = PUMPED + TANKS;
        static final int SOUNDED_MINUTE = SOUNDINGS + TANKS;
        static final int SOUNDED_WATER = SOUNDED_MINUTE + TANKS * SOUNDINGS_LIMIT;
        static final int SOUNDED_PUMPED = SOUNDED_WATER + TANKS * SOUNDINGS_LIMIT;
        static final int LOAD = SOUNDED_PUMPED + TANKS * SOUNDINGS_LIMIT;
        static final int SHIFT = LOAD + HOLDS;
        static final int GROUP_TANKS = SHIFT + HOLDS;
        static final int GROUP_OPEN = GROUP_TANKS + GROUPS;
        static final int SETTING = GROUP_OPEN + GROUPS;
        static final int ROW_KIND = SETTING + SETTINGS;
        static final int ROW_BY = ROW_KIND + ROW_LIMIT;
        static final int ROW_LENGTH = ROW_BY + ROW_LIMIT;
        static final int MINUTES = ROW_LENGTH + 1;
        static final int FROM_RIVER = MINUTES + 1;
        static final int INTO_RIVER = FROM_RIVER + 1;
        static final int LEVELLED = INTO_RIVER + 1;
        static final int REFUSED = LEVELLED + 1;
        static final int SHIFTS = REFUSED + 1;
        static final int SIZE = SHIFTS + 1;

        private final int[] cells = new int[SIZE];

        State() {
            for (int tank = 0; tank < TANKS; tank++) {
                cells[WATER + tank] = FIRST_WATER;
            }
            for (int group = 0; group < GROUPS; group++) {
                cells[GROUP_TANKS + group] = FIRST_TANKS[group];
            }
            for (int which = 0; which < SETTINGS; which++) {
                cells[SETTING + which] = FIRST_SETTING[which];
            }
        }

        int at(int cell) {
            return cell >= 0 && cell < SIZE ? cells[cell] : 0;
        }

        void put(int cell, int value) {
            if (cell >= 0 && cell < SIZE) {
                cells[cell] = value;
            }
        }

        void add(int cell, int change) {
            if (cell >= 0 && cell < SIZE) {
                cells[cell] += change;
            }
        }

        void copyTo(int[] row) {
            if (row != null && row.length == SIZE) {
                System.arraycopy(cells, 0, row, 0, SIZE);
            }
        }

        void copyFrom(int[] row) {
            if (row != null && row.length == SIZE) {
                System.arraycopy(row, 0, cells, 0, SIZE);
            }
        }

        static boolean isIn(int set, int number) {
            return (set >> number & 1) == 1;
        }

        int waterIn(int tanks) {
            int water = 0;
            for (int tank = 0; tank < TANKS; tank++) {
                if (isIn(tanks, tank)) {
                    water += cells[WATER + tank];
                }
            }
            return water;
        }

        int lostByLeaks() {
            int lost = 0;
            for (int tank = 0; tank < TANKS; tank++) {
                lost += cells[LOST + tank];
            }
            return lost;
        }

        int weight() {
            int weight = EMPTY_WEIGHT;
            for (int tank = 0; tank < TANKS; tank++) {
                weight += cells[WATER + tank];
            }
            for (int hold = 0; hold < HOLDS; hold++) {
                weight += cells[LOAD + hold];
            }
            return weight;
        }

        int trimMomentAbout(int point) {
            int moment = point * (weight() - EMPTY_WEIGHT);
            for (int tank = 0; tank < TANKS; tank++) {
                moment += cells[WATER + tank] * (SECTION_ARM[tank / 2] - point);
            }
            for (int hold = 0; hold < HOLDS; hold++) {
                moment += cells[LOAD + hold] * (HOLD_ARM[hold] - point);
            }
            return moment;
        }

        int trim() {
            return trimMomentAbout(0) / 40;
        }

        int listMoment() {
            int moment = 0;
            for (int tank = 0; tank < TANKS; tank++) {
                moment += cells[WATER + tank] * SIDE_ARM[tank % 2];
            }
            for (int hold = 0; hold < HOLDS; hold++) {
                moment += cells[LOAD + hold] * cells[SHIFT + hold];
            }
            return moment;
        }

        int list() {
            return listOf(listMoment(), weight());
        }

        static int listOf(int moment, int weight) {
            return weight > 0 ? 10 * moment / weight : 0;
        }

        static int draughtOf(int weight) {
            return weight / 10;
        }

        int openTanks() {
            int open = 0;
            for (int group = 0; group < GROUPS; group++) {
                if (cells[GROUP_OPEN + group] == 1) {
                    open |= cells[GROUP_TANKS + group];
                }
            }
            return open;
        }

        int groupsWith(int tank) {
            int groups = 0;
            for (int group = 0; group < GROUPS; group++) {
                if (isIn(cells[GROUP_TANKS + group], tank)) {
                    groups |= 1 << group;
                }
            }
            return groups;
        }

        /** The tank of the set with the least water, of several the lowest. */
        int emptiest(int tanks) {
            int found = NO_TANK;
            for (int tank = 0; tank < TANKS; tank++) {
                if (isIn(tanks, tank)
                        && (found == NO_TANK || cells[WATER + tank] < cells[WATER + found])) {
                    found = tank;
                }
            }
            return found;
        }

        /** The tank of the set with the most water, of several the lowest. */
        int fullest(int tanks) {
            int found = NO_TANK;
            for (int tank = 0; tank < TANKS; tank++) {
                if (isIn(tanks, tank)
                        && (found == NO_TANK || cells[WATER + tank] > cells[WATER + found])) {
                    found = tank;
                }
            }
            return found;
        }
    }

    /** Moves water, unit by unit, into and out of the open tanks. */
    private static final class Pump {
        /** The tank that the next unit from the river goes into, or NO_TANK if none can. */
        static int tankToFill(State state, int open) {
            int tank = state.emptiest(open);
            if (tank == NO_TANK || state.at(State.WATER + tank) >= TANK_ROOM) {
                return NO_TANK;
            }
            int draught = State.draughtOf(state.weight() + 1);
            return draught > state.at(State.SETTING + DEEPEST) ? NO_TANK : tank;
        }

        /** The tank that the next unit into the river comes from, or NO_TANK if none can. */
        static int tankToEmpty(State state, int open) {
            int tank = state.fullest(open);
            return tank == NO_TANK || state.at(State.WATER + tank) <= 0 ? NO_TANK : tank;
        }

        /** The tank that gives the next unit to the emptiest, or NO_TANK if they are level. */
        static int tankToLower(State state, int open) {
            int from = state.fullest(open);
            int to = state.emptiest(open);
            if (from == NO_TANK || to == NO_TANK) {
                return NO_TANK;
            }
            int difference = state.at(State.WATER + from) - state.at(State.WATER + to);
            return difference >= 2 ? from : NO_TANK;
        }

        /** Answers whether a unit could be moved. */
        static boolean moveUnit(State state, int mode, int open) {
            switch (mode) {
                case FILL: return fillUnit(state, tankToFill(state, open));
                case EMPTY: return emptyUnit(state, tankToEmpty(state, open));
                case LEVEL: return levelUnit(state, tankToLower(state, open), state.emptiest(open));
                default: return false;
            }
        }

        private static boolean fillUnit(State state, int tank) {
            if (tank == NO_TANK) {
                return false;
            }
            moveBy(state, tank, 1);
            state.add(State.FROM_RIVER, 1);
            return true;
        }

        private static boolean emptyUnit(State state, int tank) {
            if (tank == NO_TANK) {
                return false;
            }
            moveBy(state, tank, -1);
            state.add(State.INTO_RIVER, 1);
            return true;
        }

        private static boolean levelUnit(State state, int from, int to) {
            if (from == NO_TANK || to == NO_TANK) {
                return false;
            }
            moveBy(state, from, -1);
            moveBy(state, to, 1);
            state.add(State.LEVELLED, 1);
            return true;
        }

        private static void moveBy(State state, int tank, int units) {
            state.add(State.WATER + tank, units);
            state.add(State.PUMPED + tank, 1);
        }
    }

    /** Lets time pass: the pump runs, tanks leak, cargo shifts. */
    private static final class Minutes {
        static void run(State state, int mode, int minutes) {
            int open = state.openTanks();
            int rate = state.at(State.SETTING + RATE);
            for (int minute = 0; minute < minutes; minute++) {
                state.add(State.MINUTES, 1);
                boolean moved = true;
                for (int unit = 0; unit < rate && moved; unit++) {
                    moved = Pump.moveUnit(state, mode, open);
                }
                if (state.at(State.MINUTES) % LEAK_EVERY == 0) {
                    leakOut(state);
                }
                shiftCargo(state);
            }
        }

        private static void leakOut(State state) {
            for (int tank = 0; tank < TANKS; tank++) {
                int lost = Math.min(state.at(State.LEAK + tank), state.at(State.WATER + tank));
                state.add(State.WATER + tank, -lost);
                state.add(State.LOST + tank, lost);
            }
        }

        private static void shiftCargo(State state) {
            int list = state.list();
            if (Math.abs(list) <= state.at(State.SETTING + SHIFTING_LIST)) {
                return;
            }
            int step = list < 0 ? -1 : 1;
            for (int hold = 0; hold < HOLDS; hold++) {
                int shift = state.at(State.SHIFT + hold) + step;
                if (state.at(State.LOAD + hold) > 0 && Math.abs(shift) <= SHIFT_LIMIT) {
                    state.put(State.SHIFT + hold, shift);
                    state.add(State.SHIFTS, 1);
                }
            }
        }
    }

    /** The row of orders that wait, and how they are worked off. */
    private static final class OrderRow {
        private static final int NO_REASON = 0;
        private static final int VALVE_IS_SO = 1;
        private static final int NO_OPEN_TANK = 2;
        private static final int CANNOT_FILL = 3;
        private static final int CANNOT_EMPTY = 4;
        private static final int IS_LEVEL = 5;

        static void append(State state, int kind, int by) {
            int length = state.at(State.ROW_LENGTH);
            if (length >= ROW_LIMIT) {
                return;
            }
            putAt(state, length, kind, by);
            state.put(State.ROW_LENGTH, length + 1);
        }

        private static void putAt(State state, int place, int kind, int by) {
            state.put(State.ROW_KIND + place, kind);
            state.put(State.ROW_BY + place, by);
        }

        static boolean has(State state, int kind) {
            int length = state.at(State.ROW_LENGTH);
            for (int place = 0; place < length; place++) {
                if (state.at(State.ROW_KIND + place) == kind) {
                    return true;
                }
            }
            return false;
        }

        /** Answers how many were struck out. */
        static int strikeOut(State state, int kind) {
            int length = state.at(State.ROW_LENGTH);
            int left = 0;
            for (int place = 0; place < length; place++) {
                int kindHere = state.at(State.ROW_KIND + place);
                if (kindHere != kind) {
                    putAt(state, left, kindHere, state.at(State.ROW_BY + place));
                    left++;
                }
            }
            state.put(State.ROW_LENGTH, left);
            return length - left;
        }

        /** Takes the first order off and does or refuses it; does nothing if none waits. */
        static void workFirst(State state) {
            if (state.at(State.ROW_LENGTH) == 0) {
                return;
            }
            int kind = state.at(State.ROW_KIND);
            int by = state.at(State.ROW_BY);
            takeFirstOff(state);
            if (reasonToRefuse(state, kind, by) != NO_REASON) {
                state.add(State.REFUSED, 1);
            } else if (isValve(kind)) {
                state.put(State.GROUP_OPEN + by, kind == OPEN ? 1 : 0);
            } else {
                Minutes.run(state, kind, by);
            }
        }

        private static void takeFirstOff(State state) {
            int length = state.at(State.ROW_LENGTH);
            for (int place = 1; place < length; place++) {
                int kind = state.at(State.ROW_KIND + place);
                putAt(state, place - 1, kind, state.at(State.ROW_BY + place));
            }
            state.put(State.ROW_LENGTH, length - 1);
        }

        static int reasonToRefuse(State state, int kind, int by) {
            if (isValve(kind)) {
                int wanted = kind == OPEN ? 1 : 0;
                return state.at(State.GROUP_OPEN + by) == wanted ? VALVE_IS_SO : NO_REASON;
            }
            int open = state.openTanks();
            if (open == 0) {
                return NO_OPEN_TANK;
            }
            switch (kind) {
                case FILL:
                    return Pump.tankToFill(state, open) == NO_TANK ? CANNOT_FILL : NO_REASON;
                case EMPTY:
                    return Pump.tankToEmpty(state, open) == NO_TANK ? CANNOT_EMPTY : NO_REASON;
                default:
                    return Pump.tankToLower(state, open) == NO_TANK ? IS_LEVEL : NO_REASON;
            }
        }
    }

    /** The soundings that are kept of each tank; the latest one stands first. */
    private static final class Soundings {
        static int place(int tank, int back) {
            return tank * SOUNDINGS_LIMIT + back;
        }

        static void put(State state, int tank) {
            int latest = place(tank, 0);
            for (int back = SOUNDINGS_LIMIT - 1; back > 0; back--) {
                int later = latest + back - 1;
                putAt(state, later + 1, state.at(State.SOUNDED_MINUTE + later),
                        state.at(State.SOUNDED_WATER + later),
                        state.at(State.SOUNDED_PUMPED + later));
            }
            putAt(state, latest, state.at(State.MINUTES), state.at(State.WATER + tank),
                    state.at(State.PUMPED + tank));
            int kept = state.at(State.SOUNDINGS + tank);
            state.put(State.SOUNDINGS + tank, Math.min(kept + 1, SOUNDINGS_LIMIT));
        }

        private static void putAt(State state, int place, int minute, int water, int pumped) {
            state.put(State.SOUNDED_MINUTE + place, minute);
            state.put(State.SOUNDED_WATER + place, water);
            state.put(State.SOUNDED_PUMPED + place, pumped);
        }

        static boolean isLossTold(State state, int tank) {
            int latest = State.SOUNDED_PUMPED + place(tank, 0);
            int former = State.SOUNDED_PUMPED + place(tank, 1);
            return state.at(State.SOUNDINGS + tank) >= 2 && state.at(latest) == state.at(former);
        }

        static int loss(State state, int tank) {
            int latest = State.SOUNDED_WATER + place(tank, 0);
            int former = State.SOUNDED_WATER + place(tank, 1);
            return state.at(former) - state.at(latest);
        }
    }

    /** The change of one tank that would set her most upright. */
    private static final class Uprighting {
        int tank;
        /** The units that are put in; below 0 if they are taken out. */
        int change;
        int list;

        /** Tries the fewest units first, so that only what is better takes the place of the best. */
        Uprighting(State state, int mostUnits) {
            int moment = state.listMoment();
            int weight = state.weight();
            list = State.listOf(moment, weight);
            for (int units = 1; units <= mostUnits; units++) {
                for (int tried = 0; tried < TANKS; tried++) {
                    int water = state.at(State.WATER + tried);
                    int turn = units * SIDE_ARM[tried % 2];
                    if (water + units <= TANK_ROOM) {
                        takeIfBetter(tried, units, State.listOf(moment + turn, weight + units));
                    }
                    if (water - units >= 0) {
                        takeIfBetter(tried, -units, State.listOf(moment - turn, weight - units));
                    }
                }
            }
        }

        private void takeIfBetter(int triedTank, int triedChange, int triedList) {
            if (Math.abs(triedList) < Math.abs(list)) {
                tank = triedTank;
                change = triedChange;
                list = triedList;
            }
        }
    }

    /** The text that is typed, and the orders that are read from it. */
    private static final class OrderText {
        private static final int LETTER = 0;
        private static final int GROUP_DIGIT = 1;
        private static final int FIRST_DIGIT = 2;
        private static final int DIGIT_OR_END = 3;
        private static final int END = 4;

        private final char[] signs = new char[TEXT_LIMIT];
        private int length;

        private final int[] kinds = new int[TEXT_LIMIT];
        private final int[] bys = new int[TEXT_LIMIT];
        private int orders;
        /** What may stand at the place that is read next. */
        private int expected;

        int length() {
            return length;
        }

        /** Answers whether there was room. */
        boolean add(char sign) {
            if (!isWithin(length, 0, TEXT_LIMIT - 1)) {
                return false;
            }
            signs[length] = sign;
            length++;
            return true;
        }

        void clear() {
            length = 0;
        }

        /** Reads the orders; answers the fault, or NO_FAULT. */
        int read() {
            orders = 0;
            expected = LETTER;
            for (int place = 0; place < length && place < TEXT_LIMIT; place++) {
                if (!takes(signs[place])) {
                    return place;
                }
            }
            return expected == DIGIT_OR_END || expected == END ? NO_FAULT : length;
        }

        int orders() {
            return orders;
        }

        int kindOf(int place) {
            return isWithin(place, 0, TEXT_LIMIT - 1) ? kinds[place] : 0;
        }

        int byOf(int place) {
            return isWithin(place, 0, TEXT_LIMIT - 1) ? bys[place] : 0;
        }

        private boolean takes(char sign) {
            switch (expected) {
                case LETTER: return takesLetter(sign);
                case GROUP_DIGIT: return takesFirstDigit(sign, '0', '4', END);
                case FIRST_DIGIT: return takesFirstDigit(sign, '1', '9', DIGIT_OR_END);
                case DIGIT_OR_END: return takesEnd(sign) || takesNextDigit(sign);
                default: return takesEnd(sign);
            }
        }

        private boolean takesLetter(char sign) {
            int kind = kindOfLetter(sign);
            if (kind == NO_KIND || !isWithin(orders, 0, TEXT_LIMIT - 1)) {
                return false;
            }
            kinds[orders] = kind;
            bys[orders] = 0;
            orders++;
            expected = isValve(kind) ? GROUP_DIGIT : FIRST_DIGIT;
            return true;
        }

        private static int kindOfLetter(char sign) {
            if (sign == 'o') {
                return OPEN;
            }
            if (sign == 'c') {
                return CLOSE;
            }
            if (sign == 'f') {
                return FILL;
            }
            if (sign == 'e') {
                return EMPTY;
            }
            return sign == 'l' ? LEVEL : NO_KIND;
        }

        private boolean takesFirstDigit(char sign, char least, char most, int expectedThen) {
            if (!isWithin(sign, least, most) || !isWithin(orders, 1, TEXT_LIMIT)) {
                return false;
            }
            bys[orders - 1] = sign - '0';
            expected = expectedThen;
            return true;
        }

        private boolean takesNextDigit(char sign) {
            if (!isWithin(sign, '0', '9') || !isWithin(orders, 1, TEXT_LIMIT)) {
                return false;
            }
            int by = bys[orders - 1] * 10 + sign - '0';
            if (by > MINUTES_LIMIT) {
                return false;
            }
            bys[orders - 1] = by;
            return true;
        }

        private boolean takesEnd(char sign) {
            if (sign != ';') {
                return false;
            }
            expected = LETTER;
            return true;
        }
    }

    /** The latest states before acts, in a ring of rows that are used again. */
    private static final class History {
        private final int[][] rows = new int[HISTORY_LIMIT][State.SIZE];
        /** The row that the next state goes into. */
        private int next;
        private int length;

        int length() {
            return length;
        }

        void record(State state) {
            if (next < 0 || next >= HISTORY_LIMIT) {
                return;
            }
            state.copyTo(rows[next]);
            next = (next + 1) % HISTORY_LIMIT;
            length = Math.min(length + 1, HISTORY_LIMIT);
        }

        void bringBack(State state) {
            int latest = (next + HISTORY_LIMIT - 1) % HISTORY_LIMIT;
            if (length == 0 || latest < 0 || latest >= HISTORY_LIMIT) {
                return;
            }
            state.copyFrom(rows[latest]);
            next = latest;
            length--;
        }
    }
}
