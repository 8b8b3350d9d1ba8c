/** Promises 7, 12 and 13: orderAll with the places of faults, type, clearText. */
public final class TextsTest {
    private static final Answers ANSWERS = new Answers();

    public static void main(String[] args) {
        typesUpToTheLimit();
        textsWithoutAFault();
        faultsOfTexts();
        allOrNone();
        theTextStays();
        longestTexts();
        ANSWERS.end();
    }

    private static void due(String call, long got, long want) {
        ANSWERS.due(call, got, want);
    }

    private static void typesUpToTheLimit() {
        BargeBallast x = new BargeBallast();
        due("clearText() of nothing", x.clearText(), 0);
        for (int i = 1; i <= 60; i++) {
            due("type", x.type((char) (i * 1000)), i);
        }
        due("type 61", x.type('o'), -1003);
        due("count(20)", x.count(20), 60);
        due("clearText()", x.clearText(), 60);
        due("count(20)", x.count(20), 0);
        due("clearText() again", x.clearText(), 0);
        due("type(0)", x.type((char) 0), 1);
        due("type(max)", x.type(Character.MAX_VALUE), 2);
        due("texts are no acts", x.count(19), 0);
    }

    private static void textsWithoutAFault() {
        BargeBallast x = new BargeBallast();
        Barges.type(x, "o0;c4;f1;e60;l10");
        due("orderAll()", x.orderAll(), 5);
        int[][] want = {{0, 0}, {1, 4}, {2, 1}, {3, 60}, {4, 10}};
        for (int place = 0; place < want.length; place++) {
            due("kind", x.waiting(place, 0), want[place][0]);
            due("by", x.waiting(place, 1), want[place][1]);
        }
        due("count(12)", x.count(12), 5);
        due("one act", x.count(19), 1);
        Barges.type(x, "f59");
        due("one order", x.orderAll(), 1);
        due("behind the others", x.waiting(5, 1), 59);
    }

    private static void fault(String text, int fault) {
        BargeBallast x = new BargeBallast();
        Barges.type(x, text);
        due("fault of \"" + text + "\"", x.orderAll(), -2000 - fault);
        due("nothing is recorded", x.count(19), 0);
        due("nothing waits", x.count(12), 0);
        due("the text stays", x.count(20), text.length());
    }

    private static void faultsOfTexts() {
        String[] early = {"", "o", "c", "f", "e", "l", "o1;", "f6;", "f60;", "f6;o", "o1;c2;l"};
        for (String text : early) {
            fault(text, text.length());
        }
        fault("x", 0);
        fault(";", 0);
        fault(" o1", 0);
        fault("O1", 0);
        fault("1", 0);
        fault("o5", 1);
        fault("o-", 1);
        fault("o/", 1);
        fault("c:", 1);
        fault("o;", 1);
        fault("oo", 1);
        fault("o10", 2);
        fault("o1 ", 2);
        fault("o1o2", 2);
        fault("f0", 1);
        fault("f01", 1);
        fault("e;", 1);
        fault("l:", 1);
        fault("l/", 1);
        fault("f61", 2);
        fault("f70", 2);
        fault("f6:", 2);
        fault("f1:", 2);
        fault("f1/", 2);
        fault("f1a", 2);
        fault("f6/", 2);
        fault("f600", 3);
        fault("f100", 3);
        fault("f60x", 3);
        fault("e5o", 2);
        fault("o1;;", 3);
        fault("o1;f99;x", 5);
        fault("o1;f5;e9;l0", 10);
        fault("o" + (char) ('1' + 256), 1);
        fault("" + (char) ('o' + 65280), 0);
        fault("f1" + (char) 0x0661, 2);
    }

    private static void allOrNone() {
        BargeBallast x = new BargeBallast();
        for (int i = 0; i < 9; i++) {
            x.order(2, 1);
        }
        Barges.type(x, "o1;o2;o3;o4");
        due("13 would wait", x.orderAll(), -1003);
        due("none is put", x.count(12), 9);
        Barges.type(x, "o1;o2;o3");
        due("12 wait", x.orderAll(), 3);
        due("count(12)", x.count(12), 12);
        due("full", x.orderAll(), -1003);
        Barges.type(x, "o1;");
        due("the fault goes ahead of full", x.orderAll(), -2003);
        x.undo();
        due("undone as one act", x.count(12), 9);
        Barges.type(x, "o1;o1;o1;o1;o1;o1;o1;o1;o1;o1;o1;o1;o1;o1;x");
        due("more than 12 orders and a fault", x.orderAll(), -2042);
    }

    private static void theTextStays() {
        BargeBallast x = new BargeBallast();
        Barges.type(x, "l6");
        due("orderAll()", x.orderAll(), 1);
        due("again", x.orderAll(), 1);
        due("type", x.type('0'), 3);
        due("with one character more", x.orderAll(), 1);
        due("the first", x.waiting(0, 1), 6);
        due("the third", x.waiting(2, 1), 60);
        x.undo();
        x.keep();
        x.clearText();
        x.restore();
        due("the text is no part of the state", x.count(20), 0);
        due("so it is empty", x.orderAll(), -2000);
    }

    private static void longestTexts() {
        BargeBallast x = new BargeBallast();
        Barges.type(x, "f60;".repeat(11) + "o1;o1;o1;o1;o1;");
        due("59 characters", x.count(20), 59);
        due("ends too early", x.orderAll(), -2059);
        x.type('o');
        due("60 characters", x.orderAll(), -2060);
        Barges.type(x, "f10;".repeat(11) + "f11");
        due("12 orders", x.orderAll(), 12);
        due("the last", x.waiting(11, 1), 11);
        Barges.type(x, "o1;".repeat(19) + "o1");
        due("20 orders", x.orderAll(), -1003);
        x.strike(2);
        due("20 orders are too many for an empty row", x.orderAll(), -1003);
    }
}
