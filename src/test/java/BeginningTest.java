/** Promises 1 to 3: a new object, sites, begin. */
final class BeginningTest {
    private static final Check CHECK = new Check("BeginningTest");

    public static void main(String[] args) {
        newObject();
        numberOfSites();
        beginAnew();
        edgesOfBegin();
        CHECK.end();
    }

    private static void newObject() {
        EscrowCounter x = new EscrowCounter(3);
        CHECK.same("a new object", Picture.of(x), "sites 3 time 0 value 50 dormant 0 0"
                + " | site 0 known 50 own 50 available 50 own 50 available 50 (0 0 0 0) (0 0 0 0) (0 0 0 0)"
                + " | site 1 known 50 own 0 available 0 own 0 available 0 (0 0 0 0) (0 0 0 0) (0 0 0 0)"
                + " | site 2 known 50 own 0 available 0 own 0 available 0 (0 0 0 0) (0 0 0 0) (0 0 0 0)");
        CHECK.same("loans of a new object", x.loans(), 0);
        CHECK.same("messages of a new object", x.messages(), 0);
        CHECK.same("text of a new object", x.clearText(), 0);
        CHECK.fails("undo of a new object", IllegalStateException.class, x::undo);
    }

    private static void numberOfSites() {
        int[] asked = {Integer.MIN_VALUE, -1, 0, 1, 2, 3, 4, 5, 6, Integer.MAX_VALUE};
        int[] due = {2, 2, 2, 2, 2, 3, 4, 5, 5, 5};
        for (int i = 0; i < asked.length; i++) {
            EscrowCounter x = new EscrowCounter(asked[i]);
            CHECK.same("sites of " + asked[i], x.sites(), due[i]);
            CHECK.same("own of the last site of " + asked[i], x.own(due[i] - 1, 0), 0);
            CHECK.noSuch("own of one site more", x, () -> x.own(x.sites(), 0));
        }
    }

    private static void beginAnew() {
        EscrowCounter x = new EscrowCounter(2);
        x.increase(0, 7);
        x.increase(1, 5);
        x.decrease(1, 6);
        x.transfer(0, 0, 1, 3);
        x.transfer(1, 0, 1, 4);
        x.lend(0, 0, 1, 5, 9);
        x.pass(3);
        Steps.tell(x, 0, 1);
        Steps.tell(x, 1, 0);
        x.increase(1, 4);
        x.send(1, 0);
        Steps.type(x, "+0:2");
        CHECK.same("begin answers the value before", x.begin(-20, 30, 10), 61);
        CHECK.same("after begin", Picture.of(x), "sites 2 time 0 value 10 dormant 0 0"
                + " | site 0 known 10 own 20 available 20 own 30 available 30 (0 0 0 0) (0 0 0 0)"
                + " | site 1 known 10 own 0 available 0 own 0 available 0 (0 0 0 0) (0 0 0 0)");
        CHECK.same("loans after begin", x.loans(), 0);
        CHECK.same("messages after begin", x.messages(), 0);
        CHECK.fails("undo after begin", IllegalStateException.class, x::undo);
        CHECK.same("the text stays", x.runScript(), 1);
        CHECK.same("and is run", x.value(), 12);
        CHECK.same("undo comes to the beginning", x.undo(), 0);
        CHECK.same("value then", x.value(), 10);
        CHECK.same("a loan after begin is number 0", x.lend(1, 0, 1, 2, 1), 0);
        CHECK.same("used of it", x.loan(0, 5), 0);
        CHECK.same("nobody knows it", x.loan(0, 6), 0);
    }

    private static void edgesOfBegin() {
        EscrowCounter x = new EscrowCounter(2);
        CHECK.same("widest bounds", x.begin(-10000, 10000, -10000), 50);
        CHECK.same("own up", x.own(0, 0), 20000);
        CHECK.same("own down", x.own(0, 1), 0);
        CHECK.same("start at the high bound", x.begin(-10000, 10000, 10000), -10000);
        CHECK.same("low is high at the bottom", x.begin(-10000, -10000, -10000), 10000);
        CHECK.same("low is high at the top", x.begin(10000, 10000, 10000), -10000);
        CHECK.same("no rights up", x.own(0, 0), 0);
        CHECK.same("no rights down", x.own(0, 1), 0);
        x.begin(0, 100, 50);
        x.increase(0, 1);
        CHECK.badArgument("low too small", x, () -> x.begin(-10001, 0, 0));
        CHECK.badArgument("low too great", x, () -> x.begin(10001, 10001, 10001));
        CHECK.badArgument("high too great", x, () -> x.begin(0, 10001, 0));
        CHECK.badArgument("high under low", x, () -> x.begin(5, 4, 5));
        CHECK.badArgument("start under low", x, () -> x.begin(5, 9, 4));
        CHECK.badArgument("start over high", x, () -> x.begin(5, 9, 10));
        CHECK.badArgument("extreme values", x,
                () -> x.begin(Integer.MIN_VALUE, Integer.MAX_VALUE, 0));
        CHECK.same("a begin that throws keeps the history", x.undo(), 0);
    }
}
