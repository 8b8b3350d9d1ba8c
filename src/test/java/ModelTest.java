/** Long runs of calls, drawn from a fixed row of numbers, answered by the class and by a model. */
public final class ModelTest {
    private static final Answers ANSWERS = new Answers();
    private static final int RUNS = 400;
    private static final int CALLS = 500;

    private long drawn;
    private BargeBallast x = new BargeBallast();
    private Model m = new Model();

    private ModelTest(long first) {
        drawn = first * 2654435761L + 12345;
    }

    public static void main(String[] args) {
        for (int run = 1; run <= RUNS; run++) {
            ModelTest test = new ModelTest(run);
            for (int call = 0; call < CALLS; call++) {
                test.callOne("run " + run + ", call " + call + ": ");
                if (call % 25 == 0) {
                    test.compareAll("run " + run + ", after call " + call + ": ");
                }
            }
            test.compareAll("run " + run + ", at the end: ");
        }
        ANSWERS.end();
    }

    private int draw(int least, int most) {
        drawn = drawn * 6364136223846793005L + 1442695040888963407L;
        return least + (int) Math.floorMod(drawn >>> 33, (long) (most - least + 1));
    }

    /** Mostly a number in the range, at times one of its ends or one outside. */
    private int about(int least, int most) {
        switch (draw(0, 24)) {
            case 0: return least - 1;
            case 1: return most + 1;
            case 2: return least;
            case 3: return most;
            default: return draw(least, most);
        }
    }

    private void due(String call, int got, int want) {
        ANSWERS.due(call, got, want);
    }

    private void callOne(String at) {
        int a = 0;
        int b = 0;
        int c = 0;
        switch (draw(0, 18)) {
            case 0:
                a = about(0, 2);
                b = about(0, 300);
                c = about(-3, 3);
                due(at + "load " + a + " " + b + " " + c, x.load(a, b, c), m.load(a, b, c));
                break;
            case 1:
                a = about(0, 7);
                b = about(0, 9);
                due(at + "leak " + a + " " + b, x.leak(a, b), m.leak(a, b));
                break;
            case 2:
                a = about(0, 4);
                b = about(1, 255);
                due(at + "setGroup " + a + " " + b, x.setGroup(a, b), m.setGroup(a, b));
                break;
            case 3:
                a = about(0, 2);
                b = a == 0 ? about(1, 9) : a == 1 ? about(2, draw(3, 99)) : about(50, 200);
                due(at + "set " + a + " " + b, x.set(a, b), m.set(a, b));
                break;
            case 4:
            case 5:
            case 6:
                a = draw(0, 3) == 0 ? 0 : about(0, 4);
                b = a < 2 ? about(0, 4) : about(1, 60);
                due(at + "order " + a + " " + b, x.order(a, b), m.order(a, b));
                break;
            case 7:
            case 8:
                typeOrders(at);
                due(at + "orderAll", x.orderAll(), m.orderAll());
                break;
            case 9:
                a = draw(0, 3) == 0 ? about(0, 4) : 9;
                due(at + "strike " + a, x.strike(a), m.strike(a));
                break;
            case 10:
            case 11:
            case 12:
                a = about(1, 12);
                due(at + "work " + a, x.work(a), m.work(a));
                break;
            case 13:
                a = about(1, draw(1, 200));
                due(at + "pass " + a, x.pass(a), m.pass(a));
                break;
            case 14:
            case 15:
                a = draw(0, 2) == 0 ? about(0, 7) : draw(0, 1);
                due(at + "sound " + a, x.sound(a), m.sound(a));
                break;
            case 16:
                due(at + "undo", x.undo(), m.undo());
                break;
            case 17:
                if (draw(0, 1) == 0) {
                    due(at + "keep", x.keep(), m.keep());
                } else {
                    due(at + "restore", x.restore(), m.restore());
                }
                break;
            default:
                tellOne(at);
                break;
        }
    }

    /** Types orders, at times with a wrong character, or with none in front of them cleared. */
    private void typeOrders(String at) {
        if (draw(0, 4) != 0) {
            due(at + "clearText", x.clearText(), m.clearText());
        }
        int orders = draw(0, 15) == 0 ? 15 : draw(1, 4);
        for (int i = 0; i < orders; i++) {
            int kind = draw(0, 4);
            typeAll(at, i == 0 ? "" : ";");
            typeAll(at, "" + "ocfel".charAt(kind));
            typeAll(at, "" + (kind < 2 ? about(0, 4) : about(1, 60)));
        }
        if (draw(0, 5) == 0) {
            typeAll(at, "" + ";0159ox-".charAt(draw(0, 7)));
        }
    }

    private void typeAll(String at, String signs) {
        for (int i = 0; i < signs.length(); i++) {
            due(at + "type " + signs, x.type(signs.charAt(i)), m.type(signs.charAt(i)));
        }
    }

    private void tellOne(String at) {
        int point = about(-50, 50);
        due(at + "trimMoment " + point, x.trimMoment(point), m.trimMoment(point));
        int units = about(1, 100);
        for (int what = -1; what <= 3; what++) {
            due(at + "upright " + units + " " + what, x.upright(units, what),
                    m.upright(units, what));
        }
    }

    private void compareAll(String at) {
        for (int number = -1; number <= 13; number++) {
            for (int what = -1; what <= 7; what++) {
                String call = at + "(" + number + ", " + what + ")";
                due(call + " tank", x.tank(number, what), m.tank(number, what));
                due(call + " hold", x.hold(number, what), m.hold(number, what));
                due(call + " group", x.group(number, what), m.group(number, what));
                due(call + " waiting", x.waiting(number, what), m.waiting(number, what));
                due(call + " minute", x.sounding(number, what, true), m.sounding(number, what, true));
                due(call + " water", x.sounding(number, what, false),
                        m.sounding(number, what, false));
            }
        }
        for (int what = -1; what <= 21; what++) {
            due(at + "count " + what, x.count(what), m.count(what));
        }
    }
}
