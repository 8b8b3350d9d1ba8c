/** The term TEXTS, and promises 7, 12 and 13: a test for each sentence with an edge. */
public final class TextsEdgesTest {
    private static final int FULL = -1003;
    private static final int NONE = -1005;
    private static final int FAULT = -2000;
    /** 60 characters, 16 orders, no fault. */
    private static final String LONGEST = "f60;".repeat(13) + "o1;o1;o1";

    private static final Answers ANSWERS = new Answers();
    private static final Refusals REFUSALS = new Refusals(ANSWERS);

    public static void main(String[] args) {
        typing();
        reading();
        ordering();
        ANSWERS.end();
    }

    private static void said(String sentence, Runnable test) {
        ANSWERS.sentence(sentence, test);
    }

    private static void due(String call, long got, long want) {
        ANSWERS.due(call, got, want);
    }

    private static void typing() {
        said("a text of at most 60 characters", TextsEdgesTest::sixtyCharacters);
        said("type: FULL if it has 60 characters", TextsEdgesTest::typesOneTooMany);
        said("a text, empty at first", TextsEdgesTest::emptyAtFirst);
        said("character: any character", TextsEdgesTest::anyCharacter);
        said("clearText returns the length that it had", TextsEdgesTest::clears);
    }

    private static void reading() {
        said("one or more orders", TextsEdgesTest::oneOrMoreOrders);
        said("with \";\" between two", TextsEdgesTest::semicolonBetweenTwo);
        said("\"o\" or \"c\", or \"f\", \"e\" or \"l\"", TextsEdgesTest::letters);
        said("and a group (0 to 4)", TextsEdgesTest::groupDigits);
        said("and minutes (1 to 60)", TextsEdgesTest::minutesOfTexts);
        said("without a zero in front", TextsEdgesTest::noZeroInFront);
        said("a digit by which they would be above 60 is not allowed", TextsEdgesTest::above60);
        said("the first character that is not allowed at its place",
                TextsEdgesTest::everyCharacterAtEveryPlace);
        said("the index of the first one, from 0, up to the last character",
                TextsEdgesTest::firstFault);
        said("or the length of the text if it ends too early", TextsEdgesTest::endsTooEarly);
        said("the empty text does", TextsEdgesTest::emptyText);
    }

    private static void ordering() {
        said("Puts the orders of the text behind the row", TextsEdgesTest::behindTheRow);
        said("the text, which stays", TextsEdgesTest::textStays);
        said("all of them, or none", TextsEdgesTest::allOrNone);
        said("This is one act", TextsEdgesTest::oneAct);
        said("orderAll returns how many the text has", TextsEdgesTest::howMany);
        said("-2000 minus the fault of the text (which is an error)",
                TextsEdgesTest::faultChangesNothing);
        said("orderAll: FULL if more than 12 would wait", TextsEdgesTest::moreThan12);
        said("orderAll: the fault; FULL", TextsEdgesTest::orderAllAsksInOrder);
    }

    private static BargeBallast typed(String text) {
        BargeBallast x = new BargeBallast();
        Barges.type(x, text);
        return x;
    }

    private static void fault(String text, int fault) {
        due("fault of \"" + text + "\"", typed(text).orderAll(), FAULT - fault);
    }

    /** The text has one order, of this kind, by this group or these minutes. */
    private static void order(String text, int kind, int by) {
        BargeBallast x = typed(text);
        due("orders of \"" + text + "\"", x.orderAll(), 1);
        due("kind of \"" + text + "\"", x.waiting(0, 0), kind);
        due("group or minutes of \"" + text + "\"", x.waiting(0, 1), by);
    }

    private static void sixtyCharacters() {
        BargeBallast x = new BargeBallast();
        for (int length = 1; length <= 60; length++) {
            due("type", x.type('o'), length);
            due("count(20)", x.count(20), length);
        }
        due("one too many", x.type('o'), FULL);
        due("count(20)", x.count(20), 60);
    }

    private static BargeBallast longest() {
        BargeBallast x = Barges.lived();
        Barges.type(x, LONGEST);
        return x;
    }

    private static void typesOneTooMany() {
        due("length", longest().count(20), 60);
        REFUSALS.due("type('x')", TextsEdgesTest::longest, x -> x.type('x'), FULL);
        REFUSALS.due("type(';')", TextsEdgesTest::longest, x -> x.type(';'), FULL);
        BargeBallast x = longest();
        x.clearText();
        due("behind clearText", x.type('o'), 1);
    }

    private static void emptyAtFirst() {
        BargeBallast x = new BargeBallast();
        due("count(20)", x.count(20), 0);
        due("orderAll", x.orderAll(), FAULT);
        due("clearText", x.clearText(), 0);
    }

    private static void anyCharacter() {
        char[] signs = {0, 1, '\n', ' ', 127, 128, 255, 256, 0x7fff, 0xd800, 0xfffe, 0xffff};
        BargeBallast x = new BargeBallast();
        for (int i = 0; i < signs.length; i++) {
            due("type " + (int) signs[i], x.type(signs[i]), i + 1);
        }
    }

    private static void clears() {
        for (int length : new int[] {0, 1, 2, 59, 60}) {
            BargeBallast x = typed("o".repeat(length));
            due("clearText", x.clearText(), length);
            due("count(20)", x.count(20), 0);
            due("clearText again", x.clearText(), 0);
            due("it is the empty text", x.orderAll(), FAULT);
        }
    }

    private static void oneOrMoreOrders() {
        fault("", 0);
        due("one", typed("o1").orderAll(), 1);
        due("two", typed("o1;c1").orderAll(), 2);
        due("twelve", typed("f1;".repeat(11) + "f1").orderAll(), 12);
    }

    private static void semicolonBetweenTwo() {
        due("between two", typed("o1;f1;c2").orderAll(), 3);
        fault(";o1", 0);
        fault("o1;", 3);
        fault("o1;;c1", 3);
        fault("o1c1", 2);
        fault("f1o1", 2);
        fault("o1,c1", 2);
        fault("o1:c1", 2);
    }

    private static void letters() {
        order("o1", 0, 1);
        order("c1", 1, 1);
        order("f1", 2, 1);
        order("e1", 3, 1);
        order("l1", 4, 1);
        fault("O1", 0);
        fault("n1", 0);
        fault("p1", 0);
        fault("01", 0);
    }

    private static void groupDigits() {
        for (int group = 0; group <= 4; group++) {
            order("o" + group, 0, group);
            order("c" + group, 1, group);
            fault("o" + group + "0", 2);
        }
        for (String letter : new String[] {"o", "c"}) {
            fault(letter + "5", 1);
            fault(letter + "9", 1);
            fault(letter + "/", 1);
            fault(letter + "-", 1);
        }
    }

    private static void minutesOfTexts() {
        String[] letters = {"f", "e", "l"};
        for (int i = 0; i < 3; i++) {
            for (int minutes = 1; minutes <= 60; minutes++) {
                order(letters[i] + minutes, 2 + i, minutes);
            }
            fault(letters[i] + "0", 1);
            for (int minutes = 61; minutes <= 99; minutes++) {
                fault(letters[i] + minutes, 2);
            }
        }
    }

    private static void noZeroInFront() {
        for (String letter : new String[] {"f", "e", "l"}) {
            fault(letter + "0", 1);
            fault(letter + "01", 1);
            fault(letter + "060", 1);
        }
        order("f10", 2, 10);
        order("o0", 0, 0);
    }

    private static void above60() {
        order("f60", 2, 60);
        fault("f61", 2);
        fault("f70", 2);
        fault("f90", 2);
        fault("f600", 3);
        fault("f100", 3);
        fault("f590", 3);
        fault("f111", 3);
    }

    /** What may follow on each beginning; every other character is the fault. */
    private static void everyCharacterAtEveryPlace() {
        String digits = "0123456789";
        String[][] rows = {{"", "ocfel"}, {"o", "01234"}, {"c", "01234"}, {"f", "123456789"},
            {"e", "123456789"}, {"l", "123456789"}, {"o0", ";"}, {"c4", ";"}, {"f1", ";" + digits},
            {"e5", ";" + digits}, {"l6", ";0"}, {"f7", ";"}, {"f9", ";"}, {"f10", ";"},
            {"e60", ";"}, {"o1;", "ocfel"}, {"f60;", "ocfel"}, {"o1;f", "123456789"},
            {"f59;e6", ";0"}, {"f59;e", "123456789"}, {"f6;c", "01234"}};
        for (String[] row : rows) {
            for (int block = 0; block < 65536; block += 64) {
                characters(row[0], row[1], block);
            }
        }
    }

    private static void characters(String beginning, String allowed, int block) {
        BargeBallast x = new BargeBallast();
        for (int i = block; i < block + 64; i++) {
            Barges.type(x, beginning);
            x.type((char) i);
            boolean isFault = x.orderAll() == FAULT - beginning.length();
            boolean isAllowed = allowed.indexOf(i) >= 0;
            ANSWERS.isTrue("\"" + beginning + "\" and the character " + i, isFault != isAllowed);
        }
    }

    private static void firstFault() {
        fault("x", 0);
        fault("xx", 0);
        fault("o5;x", 1);
        fault("o1;x;y", 3);
        fault("o1;c1 ", 5);
        String start = LONGEST.substring(0, 59);
        fault(start + "5", 59);
        fault(start + "x", 59);
        due("59 characters, and a right one", typed(LONGEST).orderAll(), FULL);
    }

    private static void endsTooEarly() {
        String[] early = {"o", "c", "f", "e", "l", "o1;", "f6;", "f60;", "o1;c", "o1;f60;l",
            LONGEST.substring(0, 59), "f60;".repeat(15)};
        for (String text : early) {
            fault(text, text.length());
        }
    }

    private static void emptyText() {
        fault("", 0);
        BargeBallast x = typed("o1");
        x.clearText();
        due("emptied", x.orderAll(), FAULT);
        REFUSALS.due("of a lived barge", () -> {
            BargeBallast y = Barges.lived();
            y.clearText();
            return y;
        }, BargeBallast::orderAll, FAULT);
    }

    private static void behindTheRow() {
        BargeBallast x = new BargeBallast();
        x.order(4, 30);
        x.order(1, 3);
        Barges.type(x, "e7;o0");
        due("orderAll", x.orderAll(), 2);
        int[][] rows = {{4, 30}, {1, 3}, {3, 7}, {0, 0}};
        for (int place = 0; place < rows.length; place++) {
            due("kind", x.waiting(place, 0), rows[place][0]);
            due("by", x.waiting(place, 1), rows[place][1]);
        }
        due("behind the last", x.waiting(4, 0), NONE);
    }

    private static void textStays() {
        BargeBallast x = typed("f1;o2");
        due("orderAll", x.orderAll(), 2);
        due("length", x.count(20), 5);
        due("orderAll again", x.orderAll(), 2);
        due("type", x.type('x'), 6);
        due("with a fault", x.orderAll(), FAULT - 5);
        due("length", x.count(20), 6);
        due("clearText", x.clearText(), 6);
    }

    private static BargeBallast withRow(int orders, String text) {
        BargeBallast x = typed(text);
        for (int i = 0; i < orders; i++) {
            x.order(2, i + 1);
        }
        return x;
    }

    private static void allOrNone() {
        REFUSALS.due("11 wait, 2 more", () -> withRow(11, "o1;o2"), BargeBallast::orderAll, FULL);
        REFUSALS.due("1 is right, 1 is not", () -> withRow(3, "o1;o5"), BargeBallast::orderAll,
                FAULT - 4);
        REFUSALS.due("2 are right, 1 ends too early", () -> withRow(3, "o1;f6;"),
                BargeBallast::orderAll, FAULT - 6);
    }

    private static void oneAct() {
        BargeBallast x = typed("o1;f5;c1;e9;l3");
        due("orderAll", x.orderAll(), 5);
        due("one state", x.count(19), 1);
        due("undo", x.undo(), 0);
        due("none waits", x.count(12), 0);
        due("the text stays", x.count(20), 14);
    }

    private static void howMany() {
        for (int orders = 1; orders <= 12; orders++) {
            String text = "c3;".repeat(orders - 1) + "c3";
            due("of the text", typed(text).orderAll(), orders);
            BargeBallast x = withRow(12 - orders, text);
            due("of the text, not of the row", x.orderAll(), orders);
            due("wait then", x.count(12), 12);
        }
    }

    private static void faultChangesNothing() {
        String[] texts = {"", "o", "o1;", "o5", "f0", "f61", "o1;c1;x"};
        int[] faults = {0, 1, 3, 1, 1, 2, 6};
        for (int i = 0; i < texts.length; i++) {
            String text = texts[i];
            REFUSALS.due("\"" + text + "\"", () -> {
                BargeBallast x = Barges.lived();
                Barges.type(x, text);
                return x;
            }, BargeBallast::orderAll, FAULT - faults[i]);
        }
    }

    private static void moreThan12() {
        due("9 and 3", withRow(9, "o1;o2;o3").orderAll(), 3);
        REFUSALS.due("10 and 3", () -> withRow(10, "o1;o2;o3"), BargeBallast::orderAll, FULL);
        due("11 and 1", withRow(11, "o1").orderAll(), 1);
        REFUSALS.due("12 and 1", () -> withRow(12, "o1"), BargeBallast::orderAll, FULL);
        due("0 and 12", typed("o1;".repeat(11) + "o1").orderAll(), 12);
        REFUSALS.due("0 and 13", () -> typed("o1;".repeat(12) + "o1"), BargeBallast::orderAll,
                FULL);
        REFUSALS.due("0 and 20", () -> typed("o1;".repeat(19) + "o1"), BargeBallast::orderAll,
                FULL);
    }

    private static void orderAllAsksInOrder() {
        REFUSALS.due("12 and a fault", () -> withRow(12, "o1;x"), BargeBallast::orderAll,
                FAULT - 3);
        REFUSALS.due("12 and the empty text", () -> withRow(12, ""), BargeBallast::orderAll,
                FAULT);
        REFUSALS.due("13 and a fault behind them", () -> typed("o1;".repeat(13)),
                BargeBallast::orderAll, FAULT - 39);
    }
}
