/** The term ORDERS, and promises 6, 8, 9 and 21: a test for each sentence with an edge. */
public final class OrdersEdgesTest {
    private static final int BAD_VALUE = -1002;
    private static final int FULL = -1003;
    private static final int NONE = -1005;
    private static final int[] OUTSIDE_KINDS = {-1, 5, Integer.MIN_VALUE, Integer.MAX_VALUE};

    private static final Answers ANSWERS = new Answers();
    private static final Refusals REFUSALS = new Refusals(ANSWERS);

    public static void main(String[] args) {
        row();
        working();
        reasons();
        orderOfReasons();
        striking();
        telling();
        ANSWERS.end();
    }

    private static void said(String sentence, Runnable test) {
        ANSWERS.sentence(sentence, test);
    }

    private static void due(String call, long got, long want) {
        ANSWERS.due(call, got, want);
    }

    private static void row() {
        said("At most 12 orders wait in a row", OrdersEdgesTest::twelveWait);
        said("order: FULL if 12 wait", OrdersEdgesTest::fullRow);
        said("FULL no more, when one is taken off", OrdersEdgesTest::roomAgain);
        said("order: kind, 0 to 4", OrdersEdgesTest::kindRange);
        said("order: by, the group (0 to 4) for 0 and 1", OrdersEdgesTest::groupRange);
        said("order: by, otherwise the minutes (1 to 60)", OrdersEdgesTest::minutesRange);
        said("order: BAD_VALUE; FULL", OrdersEdgesTest::orderAsksInOrder);
        said("puts an order behind the row", OrdersEdgesTest::putsBehindTheRow);
    }

    private static void working() {
        said("work: 1 to 12", OrdersEdgesTest::workRange);
        said("work: so many", OrdersEdgesTest::worksSoMany);
        said("work: or as many as wait", OrdersEdgesTest::worksAsManyAsWait);
        said("work: NONE if none waits", OrdersEdgesTest::worksNone);
        said("work: BAD_VALUE; NONE", OrdersEdgesTest::workAsksInOrder);
        said("work returns how many of them are refused", OrdersEdgesTest::workTellsTheRefused);
        said("nothing is done; it is taken off all the same, and counted as refused",
                OrdersEdgesTest::refusedDoesNothing);
        said("the pump is off again behind them", OrdersEdgesTest::pumpIsOffBehind);
        said("the minutes pass with the mode, 1 to 60", OrdersEdgesTest::minutesPass);
    }

    private static void reasons() {
        said("1 to open a group that is open", OrdersEdgesTest::opensAnOpenGroup);
        said("or close one that is closed", OrdersEdgesTest::closesAClosedGroup);
        said("2 to pump when no tank is open", OrdersEdgesTest::pumpsWithNoTankOpen);
        said("3 to fill when no open tank has room", OrdersEdgesTest::fillsWithoutRoom);
        said("3, or the draught would be deeper at once", OrdersEdgesTest::fillsTooDeep);
        said("4 to empty when all open tanks are empty", OrdersEdgesTest::emptiesTheEmpty);
        said("5 to level when no difference is 2 or more", OrdersEdgesTest::levelsTheLevel);
    }

    private static void orderOfReasons() {
        said("asked in this order: 2 ahead of 3", OrdersEdgesTest::twoAheadOfThree);
        said("asked in this order: 2 ahead of 4", OrdersEdgesTest::twoAheadOfFour);
        said("asked in this order: 2 ahead of 5", OrdersEdgesTest::twoAheadOfFive);
        said("asked when the turn of the order comes", OrdersEdgesTest::askedWhenTheTurnComes);
    }

    private static void striking() {
        said("strike: kind, 0 to 4", OrdersEdgesTest::strikeRange);
        said("strikes all orders of a kind out of the row", OrdersEdgesTest::strikesAllOfAKind);
        said("strikes the first and the last, and a full row", OrdersEdgesTest::strikesTheEnds);
        said("strike: NONE if there is none", OrdersEdgesTest::strikesNone);
        said("strike: BAD_VALUE; NONE", OrdersEdgesTest::strikeAsksInOrder);
    }

    private static void telling() {
        said("waiting: a place in the row of orders, from 0", OrdersEdgesTest::waitingPlaces);
        said("waiting: NONE if not so many wait", OrdersEdgesTest::notSoManyWait);
        said("waiting: BAD_VALUE (place is negative, or what)", OrdersEdgesTest::waitingRange);
        said("waiting: BAD_VALUE; NONE", OrdersEdgesTest::waitingAsksInOrder);
        said("the reason for which it would be refused if it was done now",
                OrdersEdgesTest::reasonAsOfNow);
    }

    private static BargeBallast waiting(int orders) {
        BargeBallast x = new BargeBallast();
        for (int i = 0; i < orders; i++) {
            x.order(2, i + 1);
        }
        return x;
    }

    private static BargeBallast fullRowOf12() {
        return waiting(12);
    }

    /** The reason to refuse the order, as it is told of the one that waits and by work. */
    private static void reason(String when, BargeBallast x, int kind, int by, int want) {
        for (int old = 0; old < 5; old++) {
            x.strike(old);
        }
        x.order(kind, by);
        due(when + ": the reason", x.waiting(0, 2), want);
        int refused = x.count(13);
        due(when + ": refused", x.work(1), want == 0 ? 0 : 1);
        due(when + ": refused so far", x.count(13), refused + (want == 0 ? 0 : 1));
        due(when + ": taken off", x.count(12), 0);
    }

    private static void twelveWait() {
        BargeBallast x = new BargeBallast();
        for (int i = 1; i <= 12; i++) {
            due("order", x.order(3, i), i);
            due("count(12)", x.count(12), i);
        }
        due("the last", x.waiting(11, 1), 12);
    }

    private static void fullRow() {
        due("the twelfth", waiting(11).order(0, 0), 12);
        REFUSALS.due("the thirteenth", OrdersEdgesTest::fullRowOf12, x -> x.order(0, 0), FULL);
        REFUSALS.due("the thirteenth", OrdersEdgesTest::fullRowOf12, x -> x.order(4, 60), FULL);
    }

    private static void roomAgain() {
        BargeBallast x = waiting(12);
        due("work(1)", x.work(1), 1);
        due("the twelfth", x.order(0, 3), 12);
        due("FULL", x.order(0, 3), FULL);
        due("strike(0)", x.strike(0), 1);
        due("the twelfth", x.order(1, 4), 12);
        due("FULL", x.order(0, 3), FULL);
        x.undo();
        due("the twelfth", x.order(1, 4), 12);
    }

    private static void kindRange() {
        for (int kind = 0; kind < 5; kind++) {
            BargeBallast x = new BargeBallast();
            due("kind " + kind, x.order(kind, 1), 1);
            due("waiting", x.waiting(0, 0), kind);
        }
        for (int wrong : OUTSIDE_KINDS) {
            REFUSALS.due("kind " + wrong, Barges::lived, x -> x.order(wrong, 1), BAD_VALUE);
        }
    }

    private static void groupRange() {
        for (int kind = 0; kind <= 1; kind++) {
            int now = kind;
            for (int group = 0; group < 5; group++) {
                BargeBallast x = new BargeBallast();
                due("group " + group, x.order(kind, group), 1);
                due("waiting", x.waiting(0, 1), group);
            }
            for (int wrong : new int[] {-1, 5, 60, Integer.MIN_VALUE, Integer.MAX_VALUE}) {
                REFUSALS.due("group " + wrong, Barges::lived, x -> x.order(now, wrong), BAD_VALUE);
            }
        }
    }

    private static void minutesRange() {
        for (int kind = 2; kind <= 4; kind++) {
            int now = kind;
            for (int minutes : new int[] {1, 2, 5, 59, 60}) {
                BargeBallast x = new BargeBallast();
                due("minutes " + minutes, x.order(kind, minutes), 1);
                due("waiting", x.waiting(0, 1), minutes);
            }
            for (int wrong : new int[] {0, 61, -1, Integer.MIN_VALUE, Integer.MAX_VALUE}) {
                REFUSALS.due("minutes " + wrong, Barges::lived, x -> x.order(now, wrong),
                        BAD_VALUE);
            }
        }
    }

    private static void orderAsksInOrder() {
        REFUSALS.due("kind", OrdersEdgesTest::fullRowOf12, x -> x.order(5, 1), BAD_VALUE);
        REFUSALS.due("group", OrdersEdgesTest::fullRowOf12, x -> x.order(0, 5), BAD_VALUE);
        REFUSALS.due("minutes", OrdersEdgesTest::fullRowOf12, x -> x.order(2, 0), BAD_VALUE);
    }

    private static void putsBehindTheRow() {
        BargeBallast x = new BargeBallast();
        int[][] rows = {{4, 60}, {0, 4}, {2, 1}, {1, 0}, {3, 7}};
        for (int[] row : rows) {
            x.order(row[0], row[1]);
        }
        for (int place = 0; place < rows.length; place++) {
            due("kind", x.waiting(place, 0), rows[place][0]);
            due("by", x.waiting(place, 1), rows[place][1]);
        }
    }

    private static void workRange() {
        due("work(1)", waiting(1).work(1), 1);
        due("work(12)", waiting(12).work(12), 12);
        for (int wrong : new int[] {0, 13, -1, Integer.MIN_VALUE, Integer.MAX_VALUE}) {
            REFUSALS.due("work " + wrong, Barges::lived, x -> x.work(wrong), BAD_VALUE);
        }
    }

    private static void worksSoMany() {
        for (int orders = 1; orders <= 12; orders++) {
            BargeBallast x = waiting(12);
            due("work(" + orders + ")", x.work(orders), orders);
            due("left", x.count(12), 12 - orders);
            due("the first that is left", x.waiting(0, 1), orders < 12 ? orders + 1 : NONE);
            due("behind the last", x.waiting(12 - orders, 1), NONE);
        }
    }

    private static void worksAsManyAsWait() {
        for (int orders = 1; orders <= 11; orders++) {
            due("work(12)", waiting(orders).work(12), orders);
            due("work of one more", waiting(orders).work(orders + 1), orders);
        }
        BargeBallast x = waiting(3);
        x.work(4);
        due("none is left", x.count(12), 0);
        due("refused so far", x.count(13), 3);
    }

    private static void worksNone() {
        REFUSALS.due("work(1)", BargeBallast::new, x -> x.work(1), NONE);
        REFUSALS.due("work(12)", BargeBallast::new, x -> x.work(12), NONE);
        BargeBallast x = waiting(1);
        x.work(1);
        due("behind the last", x.work(1), NONE);
    }

    private static void workAsksInOrder() {
        REFUSALS.due("work(0)", BargeBallast::new, x -> x.work(0), BAD_VALUE);
        REFUSALS.due("work(13)", BargeBallast::new, x -> x.work(13), BAD_VALUE);
    }

    private static void workTellsTheRefused() {
        BargeBallast x = new BargeBallast();
        Barges.type(x, "o1;o1;c1;c1;f1;o2;f1;l1");
        x.orderAll();
        due("none of 1", x.work(1), 0);
        due("1 of 2", x.work(2), 1);
        due("2 of 2", x.work(2), 2);
        due("1 of 3: level is refused", x.work(3), 1);
        due("refused so far", x.count(13), 4);
    }

    private static void refusedDoesNothing() {
        BargeBallast x = Barges.open();
        BargeBallast same = Barges.open();
        x.order(0, 4);
        x.order(1, 0);
        x.order(4, 60);
        due("all are refused", x.work(12), 3);
        due("taken off", x.count(12), 0);
        due("counted", x.count(13), 3);
        for (int what = 0; what <= 18; what++) {
            if (what != 13) {
                due("count " + what, x.count(what), same.count(what));
            }
        }
        for (int group = 0; group < 5; group++) {
            due("group " + group, x.group(group, 1), same.group(group, 1));
        }
    }

    private static void pumpIsOffBehind() {
        for (String pumping : new String[] {"f1", "e1"}) {
            BargeBallast x = Barges.open();
            Barges.workText(x, pumping);
            int water = x.count(6);
            x.pass(1);
            due("water behind " + pumping, x.count(6), water);
        }
        BargeBallast x = Barges.withWater(40, 10);
        Barges.openOnly(x, 0, 3);
        Barges.workText(x, "l1");
        x.pass(1);
        due("levelled behind l1", x.count(11), 4);
    }

    private static void minutesPass() {
        for (int minutes : new int[] {1, 2, 59, 60}) {
            BargeBallast x = Barges.open();
            x.order(2, minutes);
            x.work(1);
            due("minutes", x.count(7), minutes);
            due("units", x.count(8), 4 * minutes);
        }
        BargeBallast x = Barges.open();
        due("two orders", Barges.workText(x, "f60;e1"), 0);
        due("minutes", x.count(7), 61);
    }

    private static void opensAnOpenGroup() {
        for (int group = 0; group < 5; group++) {
            BargeBallast x = new BargeBallast();
            reason("open a closed group", x, 0, group, 0);
            reason("open an open group", x, 0, group, 1);
            due("it is open still", x.group(group, 1), 1);
            reason("open another group", x, 0, (group + 1) % 5, 0);
        }
        BargeBallast x = Barges.open();
        reason("its tanks are open, but the group is not", x, 0, 0, 0);
    }

    private static void closesAClosedGroup() {
        for (int group = 0; group < 5; group++) {
            BargeBallast x = new BargeBallast();
            reason("close a closed group", x, 1, group, 1);
            due("it is closed still", x.group(group, 1), 0);
            Barges.workText(x, "o" + group);
            reason("close an open group", x, 1, group, 0);
            reason("close it again", x, 1, group, 1);
        }
        BargeBallast x = Barges.open();
        reason("its tanks are open, but the group is not", x, 1, 0, 1);
    }

    private static void pumpsWithNoTankOpen() {
        for (int kind = 2; kind <= 4; kind++) {
            BargeBallast x = Barges.withWater(30);
            int minutes = x.count(7);
            reason("none is open", x, kind, 5, 2);
            due("no minute passes", x.count(7), minutes);
            Barges.workText(x, "o0");
            reason("a group is open", x, kind, 5, 0);
            Barges.workText(x, "c0");
            reason("none is open again", x, kind, 5, 2);
        }
    }

    private static void fillsWithoutRoom() {
        BargeBallast x = Barges.withWater(99, 100);
        x.set(2, 200);
        Barges.openOnly(x, 0, 2);
        reason("100 alone is open", x, 2, 1, 3);
        x.setGroup(0, 3);
        reason("99 is open too", x, 2, 1, 0);
        due("full now", x.tank(0, 0), 100);
        reason("100 and 100", x, 2, 1, 3);
        x.setGroup(0, 7);
        reason("20 is open too", x, 2, 1, 0);
    }

    private static void fillsTooDeep() {
        BargeBallast x = Barges.open();
        x.set(0, 1);
        x.load(1, 18, 0);
        x.set(2, 57);
        reason("578: a unit makes 579", x, 2, 1, 0);
        reason("579: a unit makes 580", x, 2, 1, 3);
        x.set(2, 58);
        reason("580 is not deeper than 58", x, 2, 1, 0);
        x.set(2, 50);
        reason("deeper already", x, 2, 1, 3);
    }

    private static void emptiesTheEmpty() {
        BargeBallast x = Barges.withWater(1, 0);
        Barges.openOnly(x, 0, 2);
        reason("0 alone is open", x, 3, 1, 4);
        x.setGroup(0, 3);
        reason("1 is open too", x, 3, 1, 0);
        due("empty now", x.tank(0, 0), 0);
        reason("0 and 0", x, 3, 1, 4);
        x.setGroup(0, 7);
        reason("20 is open too", x, 3, 1, 0);
    }

    private static void levelsTheLevel() {
        BargeBallast x = Barges.withWater(20, 21, 22);
        Barges.openOnly(x, 0, 1);
        reason("one tank alone", x, 4, 1, 5);
        x.setGroup(0, 3);
        reason("a difference of 1", x, 4, 1, 5);
        x.setGroup(0, 9);
        reason("a difference of 0", x, 4, 1, 5);
        x.setGroup(0, 6);
        reason("a difference of 1", x, 4, 1, 5);
        x.setGroup(0, 5);
        reason("a difference of 2", x, 4, 1, 0);
        reason("then one of 0", x, 4, 1, 5);
    }

    private static void twoAheadOfThree() {
        BargeBallast x = new BargeBallast();
        x.set(2, 50);
        reason("none is open, and too deep", x, 2, 1, 2);
        Barges.workText(x, "o0");
        reason("too deep alone", x, 2, 1, 3);
    }

    private static void twoAheadOfFour() {
        BargeBallast x = Barges.open();
        Barges.workText(x, "e60");
        reason("all are empty", x, 3, 1, 4);
        Barges.workText(x, "c4");
        reason("none is open, and all are empty", x, 3, 1, 2);
    }

    private static void twoAheadOfFive() {
        BargeBallast x = new BargeBallast();
        reason("none is open, and all are level", x, 4, 1, 2);
        Barges.workText(x, "o4");
        reason("all are level", x, 4, 1, 5);
    }

    private static void askedWhenTheTurnComes() {
        BargeBallast x = new BargeBallast();
        Barges.type(x, "o0;f1;c0;c0;f1;o0;o0");
        x.orderAll();
        int[] asOfNow = {0, 2, 1, 1, 2, 0, 0};
        for (int place = 0; place < asOfNow.length; place++) {
            due("as of now, place " + place, x.waiting(place, 2), asOfNow[place]);
        }
        due("at their turns: c0, f1 and o0 are refused", x.work(12), 3);
        due("from the river", x.count(8), 4);
        due("the group is open", x.group(0, 1), 1);
    }

    private static void strikeRange() {
        for (int kind = 0; kind < 5; kind++) {
            BargeBallast x = new BargeBallast();
            x.order(kind, 1);
            due("strike(" + kind + ")", x.strike(kind), 1);
        }
        for (int wrong : OUTSIDE_KINDS) {
            REFUSALS.due("strike " + wrong, Barges::lived, x -> x.strike(wrong), BAD_VALUE);
        }
    }

    private static void strikesAllOfAKind() {
        BargeBallast x = new BargeBallast();
        Barges.type(x, "f1;f2;o1;f3;e4;l5;f6;c2");
        x.orderAll();
        due("strike(2)", x.strike(2), 4);
        int[][] left = {{0, 1}, {3, 4}, {4, 5}, {1, 2}};
        for (int place = 0; place < left.length; place++) {
            due("kind", x.waiting(place, 0), left[place][0]);
            due("by", x.waiting(place, 1), left[place][1]);
        }
        due("left", x.count(12), 4);
        due("behind the last", x.waiting(4, 0), NONE);
        due("struck is not refused", x.count(13), 0);
        due("one more behind the row", x.order(2, 9), 5);
        due("kind", x.waiting(4, 0), 2);
        due("by", x.waiting(4, 1), 9);
    }

    private static void strikesTheEnds() {
        BargeBallast x = new BargeBallast();
        Barges.type(x, "e1;f2;f3;e4");
        x.orderAll();
        due("the first and the last", x.strike(3), 2);
        due("the first now", x.waiting(0, 1), 2);
        due("the last now", x.waiting(1, 1), 3);
        BargeBallast y = waiting(12);
        due("a full row", y.strike(2), 12);
        due("none is left", y.count(12), 0);
        due("work", y.work(1), NONE);
    }

    private static void strikesNone() {
        for (int kind = 0; kind < 5; kind++) {
            int now = kind;
            REFUSALS.due("of an empty row", BargeBallast::new, x -> x.strike(now), NONE);
            if (kind != 2) {
                REFUSALS.due("of a full row", OrdersEdgesTest::fullRowOf12, x -> x.strike(now),
                        NONE);
            }
        }
    }

    private static void strikeAsksInOrder() {
        REFUSALS.due("strike(5) of an empty row", BargeBallast::new, x -> x.strike(5), BAD_VALUE);
        REFUSALS.due("strike(-1) of an empty row", BargeBallast::new, x -> x.strike(-1),
                BAD_VALUE);
    }

    private static void waitingPlaces() {
        BargeBallast x = waiting(12);
        for (int place = 0; place < 12; place++) {
            due("place " + place, x.waiting(place, 1), place + 1);
        }
    }

    private static void notSoManyWait() {
        for (int orders = 0; orders <= 12; orders++) {
            BargeBallast x = waiting(orders);
            for (int what = 0; what <= 2; what++) {
                due("behind the last", x.waiting(orders, what), NONE);
                due("far behind", x.waiting(Integer.MAX_VALUE, what), NONE);
                if (orders > 0) {
                    ANSWERS.isTrue("the last is told", x.waiting(orders - 1, what) >= 0);
                }
            }
        }
        REFUSALS.due("waiting(4, 0)", Barges::lived, x -> x.waiting(4, 0), NONE);
    }

    private static void waitingRange() {
        for (int wrong : new int[] {-1, Integer.MIN_VALUE}) {
            REFUSALS.due("place " + wrong, Barges::lived, x -> x.waiting(wrong, 0), BAD_VALUE);
        }
        for (int wrong : new int[] {-1, 3, Integer.MIN_VALUE, Integer.MAX_VALUE}) {
            REFUSALS.due("what " + wrong, Barges::lived, x -> x.waiting(0, wrong), BAD_VALUE);
        }
    }

    private static void waitingAsksInOrder() {
        REFUSALS.due("no such place, wrong what", BargeBallast::new, x -> x.waiting(0, 3),
                BAD_VALUE);
        REFUSALS.due("no such place, wrong what", Barges::lived, x -> x.waiting(4, -1), BAD_VALUE);
        REFUSALS.due("negative place, wrong what", Barges::lived, x -> x.waiting(-1, 3),
                BAD_VALUE);
    }

    private static void reasonAsOfNow() {
        BargeBallast x = new BargeBallast();
        Barges.type(x, "o0;c0;f1;e1;l1");
        x.orderAll();
        int[] closed = {0, 1, 2, 2, 2};
        int[] open = {1, 0, 0, 0, 5};
        for (int place = 0; place < closed.length; place++) {
            due("while the group is closed", x.waiting(place, 2), closed[place]);
        }
        x.work(1);
        x.order(0, 0);
        for (int place = 1; place < open.length; place++) {
            due("while the group is open", x.waiting(place - 1, 2), open[place]);
        }
        due("while the group is open", x.waiting(4, 2), open[0]);
        due("to tell it is no refusal", x.count(13), 0);
    }
}
