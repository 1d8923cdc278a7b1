/** Promises 9 and 16: pass, time. */
final class TimeTest {
    private static final Check CHECK = new Check("TimeTest");

    public static void main(String[] args) {
        passing();
        theLastTime();
        wrongInputs();
        CHECK.end();
    }

    private static void passing() {
        EscrowCounter x = new EscrowCounter(2);
        CHECK.same("time at first", x.time(), 0);
        CHECK.same("pass 1", x.pass(1), 1);
        CHECK.same("pass 1000", x.pass(1000), 1001);
        CHECK.same("time", x.time(), 1001);
        CHECK.same("own record", x.copyTime(1, 1), 1001);
        CHECK.same("a copy", x.copyTime(1, 0), 0);
        CHECK.same("no change of a record", x.version(0, 0), 0);
        CHECK.same("undo", x.undo(), 1);
        CHECK.same("time then", x.time(), 1);
        CHECK.same("own record then", x.copyTime(0, 0), 1);
    }

    /** The document bounds the time, though 512 calls cannot get there. */
    private static void theLastTime() {
        EscrowCounter x = new EscrowCounter(2);
        for (int i = 0; i < 999; i++) {
            x.pass(1000);
        }
        x.pass(999);
        CHECK.badState("2 beyond 999999", x, () -> x.pass(2));
        CHECK.badArgument("a bad amount is listed first", x, () -> x.pass(1001));
        CHECK.same("the last time", x.pass(1), 1000000);
        CHECK.badState("1 more", x, () -> x.pass(1));
        CHECK.same("nor in a script", Steps.run(x, "t1"), -1000);
        CHECK.same("a loan may end later", x.loan(x.lend(0, 0, 1, 1, 1000), 4), 1001000);
    }

    private static void wrongInputs() {
        EscrowCounter x = new EscrowCounter(2);
        CHECK.badArgument("pass 0", x, () -> x.pass(0));
        CHECK.badArgument("pass -1", x, () -> x.pass(-1));
        CHECK.badArgument("pass 1001", x, () -> x.pass(1001));
        CHECK.badArgument("pass the greatest int", x, () -> x.pass(Integer.MAX_VALUE));
        CHECK.badArgument("pass the least int", x, () -> x.pass(Integer.MIN_VALUE));
        CHECK.fails("no state was kept", IllegalStateException.class, x::undo);
    }
}
