/** Promises 6, 8, 9 and 21: order, strike, work, waiting, and why an order is refused. */
public final class OrdersTest {
    private static final Answers ANSWERS = new Answers();

    public static void main(String[] args) {
        ordersWaitInARow();
        ordersWithWrongInputs();
        strikes();
        worksOffTheFirst();
        valvesOpenAndClose();
        refusedValves();
        refusedPumping();
        fillIsRefusedByTheDraught();
        reasonsAreAskedWhenTheTurnComes();
        pumpingGoesOnForItsMinutes();
        ANSWERS.end();
    }

    private static void due(String call, long got, long want) {
        ANSWERS.due(call, got, want);
    }

    private static void ordersWaitInARow() {
        BargeBallast x = new BargeBallast();
        for (int i = 0; i < 12; i++) {
            int kind = i % 5;
            int by = kind < 2 ? i % 5 : i + 1;
            due("order", x.order(kind, by), i + 1);
        }
        due("order 13", x.order(0, 0), -1003);
        due("wrong goes ahead of full", x.order(0, 5), -1002);
        due("count(12)", x.count(12), 12);
        for (int i = 0; i < 12; i++) {
            int kind = i % 5;
            due("waiting kind", x.waiting(i, 0), kind);
            due("waiting by", x.waiting(i, 1), kind < 2 ? i % 5 : i + 1);
        }
        due("waiting(12, 0)", x.waiting(12, 0), -1005);
        due("waiting(max, 2)", x.waiting(Integer.MAX_VALUE, 2), -1005);
        due("waiting(-1, 0)", x.waiting(-1, 0), -1002);
        due("waiting(0, -1)", x.waiting(0, -1), -1002);
        due("waiting(12, 3)", x.waiting(12, 3), -1002);
    }

    private static void ordersWithWrongInputs() {
        BargeBallast x = new BargeBallast();
        due("order(-1, 1)", x.order(-1, 1), -1002);
        due("order(5, 1)", x.order(5, 1), -1002);
        for (int kind = 0; kind < 2; kind++) {
            due("group -1", x.order(kind, -1), -1002);
            due("group 5", x.order(kind, 5), -1002);
        }
        for (int kind = 2; kind < 5; kind++) {
            due("minutes 0", x.order(kind, 0), -1002);
            due("minutes 61", x.order(kind, 61), -1002);
        }
        due("nothing waits", x.count(12), 0);
        due("nothing is recorded", x.count(19), 0);
        due("order(0, 0)", x.order(0, 0), 1);
        due("order(1, 4)", x.order(1, 4), 2);
        due("order(2, 1)", x.order(2, 1), 3);
        due("order(3, 60)", x.order(3, 60), 4);
        due("order(4, 60)", x.order(4, 60), 5);
    }

    private static void strikes() {
        BargeBallast x = new BargeBallast();
        due("strike in an empty row", x.strike(2), -1005);
        Barges.type(x, "f1;o1;f2;f3;c2;e4;f5");
        x.orderAll();
        due("strike(-1)", x.strike(-1), -1002);
        due("strike(5)", x.strike(5), -1002);
        due("strike(4)", x.strike(4), -1005);
        due("history", x.count(19), 1);
        due("strike(2)", x.strike(2), 4);
        due("history", x.count(19), 2);
        int[][] left = {{0, 1}, {1, 2}, {3, 4}};
        due("left", x.count(12), 3);
        for (int place = 0; place < 3; place++) {
            due("kind at " + place, x.waiting(place, 0), left[place][0]);
            due("by at " + place, x.waiting(place, 1), left[place][1]);
        }
        due("no order behind", x.waiting(3, 0), -1005);
        due("strike(2) again", x.strike(2), -1005);
        due("struck orders are not refused", x.count(13), 0);
        due("strike(3)", x.strike(3), 1);
        due("the first stays", x.waiting(0, 0), 0);
        due("the second stays", x.waiting(1, 0), 1);
        due("strike(0)", x.strike(0), 1);
        due("strike(1)", x.strike(1), 1);
        due("row is empty", x.count(12), 0);
    }

    private static void worksOffTheFirst() {
        BargeBallast x = new BargeBallast();
        due("work on an empty row", x.work(1), -1005);
        due("work(0)", x.work(0), -1002);
        due("work(13)", x.work(13), -1002);
        due("work(-1)", x.work(-1), -1002);
        Barges.type(x, "o1;o1;c2;o3;f5");
        x.orderAll();
        due("work(2)", x.work(2), 1);
        due("left", x.count(12), 3);
        due("the third is first now", x.waiting(0, 0), 1);
        due("its group", x.waiting(0, 1), 2);
        due("refused", x.count(13), 1);
        due("minutes", x.count(7), 0);
        due("work(12)", x.work(12), 1);
        due("left", x.count(12), 0);
        due("refused", x.count(13), 2);
        due("minutes", x.count(7), 5);
        due("work on an empty row again", x.work(12), -1005);
        due("history", x.count(19), 3);
    }

    private static void valvesOpenAndClose() {
        BargeBallast x = new BargeBallast();
        due("open 1 and 4", Barges.workText(x, "o1;o4"), 0);
        due("group 1", x.group(1, 1), 1);
        due("group 4", x.group(4, 1), 1);
        due("group 0", x.group(0, 1), 0);
        due("all tanks are open", x.count(14), 255);
        due("close 4", Barges.workText(x, "c4"), 0);
        due("the tanks of 1 are open", x.count(14), 12);
        due("tank(2, 2)", x.tank(2, 2), 1);
        due("tank(4, 2)", x.tank(4, 2), 0);
        due("valves take no time", x.count(7), 0);
    }

    private static void refusedValves() {
        BargeBallast x = new BargeBallast();
        Barges.type(x, "o2;c2;c3");
        x.orderAll();
        due("open a closed group", x.waiting(0, 2), 0);
        due("close a closed group", x.waiting(1, 2), 1);
        due("close a closed group", x.waiting(2, 2), 1);
        due("work(1)", x.work(1), 0);
        due("close an open group", x.waiting(0, 2), 0);
        x.order(0, 2);
        due("open an open group", x.waiting(2, 2), 1);
        due("close; refused; open", x.work(12), 1);
        due("group 2 is open", x.group(2, 1), 1);
    }

    private static void refusedPumping() {
        BargeBallast x = new BargeBallast();
        Barges.type(x, "f1;e1;l1");
        x.orderAll();
        for (int place = 0; place < 3; place++) {
            due("no tank is open", x.waiting(place, 2), 2);
        }
        due("all are refused", x.work(12), 3);
        due("no minute passes", x.count(7), 0);
        Barges.openOnly(x, 0, 6);
        x.orderAll();
        due("fill", x.waiting(0, 2), 0);
        due("empty", x.waiting(1, 2), 0);
        due("level: no difference", x.waiting(2, 2), 5);
        x.strike(2);
        x.strike(3);
        x.strike(4);
        x.set(0, 1);
        due("fill one unit", Barges.workText(x, "f1"), 0);
        Barges.type(x, "l1");
        x.orderAll();
        due("level: a difference of 1", x.waiting(0, 2), 5);
        due("it is refused", x.work(1), 1);
        Barges.workText(x, "c0");
        Barges.openOnly(x, 1, 2);
        Barges.workText(x, "f1;o0;l1");
        due("level: a difference of 2", x.tank(1, 0), 21);
        due("the other tank", x.tank(2, 0), 21);
        due("levelled", x.count(11), 1);
        due("refused in all", x.count(13), 4);
    }

    private static void fillIsRefusedByTheDraught() {
        BargeBallast x = Barges.open();
        x.load(0, 49, 0);
        x.set(2, 60);
        x.order(2, 1);
        due("weight 609: a unit more is too deep", x.waiting(0, 2), 3);
        x.load(0, 48, 0);
        due("weight 608: a unit more is not", x.waiting(0, 2), 0);
        due("work(1)", x.work(1), 0);
        due("one unit alone", x.count(8), 1);
        due("draught", x.count(3), 60);
        x.set(2, 50);
        x.order(2, 1);
        due("too deep already", x.waiting(0, 2), 3);
        BargeBallast full = Barges.open();
        full.set(2, 200);
        full.set(0, 9);
        Barges.workText(full, "f60;f60");
        due("full", full.count(6), 800);
        full.order(2, 1);
        due("no room", full.waiting(0, 2), 3);
        Barges.workText(full, "e60;e60");
        due("empty", full.count(6), 0);
        full.order(3, 1);
        due("all open tanks are empty", full.waiting(0, 2), 4);
        full.order(4, 1);
        due("level: all are empty", full.waiting(1, 2), 5);
    }

    private static void reasonsAreAskedWhenTheTurnComes() {
        BargeBallast x = new BargeBallast();
        Barges.type(x, "f1;o0;f1;c0;e1");
        x.orderAll();
        due("fill before the valve opens", x.waiting(2, 2), 2);
        due("two are refused", x.work(12), 2);
        due("one minute", x.count(7), 1);
        due("four units", x.count(8), 4);
        due("none is emptied", x.count(9), 0);
    }

    private static void pumpingGoesOnForItsMinutes() {
        BargeBallast x = Barges.open();
        x.set(0, 9);
        due("empty for 60 minutes", Barges.workText(x, "e60"), 0);
        due("minutes pass to the end", x.count(7), 60);
        due("all water", x.count(6), 0);
        due("into the river", x.count(9), 160);
        x.pass(5);
        due("the pump is off behind it", x.count(9), 160);
        due("it stays so", x.count(8), 0);
    }
}
