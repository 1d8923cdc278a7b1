/** Promises 28 to 30: type, clearText, runScript. */
final class ScriptTest {
    private static final Check CHECK = new Check("ScriptTest");

    public static void main(String[] args) {
        typing();
        clearing();
        eachCommand();
        severalCommands();
        errorPositions();
        notPossible();
        aScriptThatFailsChangesNothing();
        aRefusedCommandLeavesNoDemand();
        theLongestScripts();
        messagesInScripts();
        statesOfScripts();
        CHECK.end();
    }

    private static void typing() {
        EscrowCounter x = new EscrowCounter(2);
        CHECK.same("the least code", x.type(32), 1);
        CHECK.same("the greatest code", x.type(126), 2);
        CHECK.badArgument("31", x, () -> x.type(31));
        CHECK.badArgument("127", x, () -> x.type(127));
        CHECK.badArgument("-1", x, () -> x.type(-1));
        for (int length = 3; length <= 60; length++) {
            CHECK.same("length", x.type('a'), length);
        }
        CHECK.badState("a 61st character", x, () -> x.type('a'));
        CHECK.badArgument("a bad code is listed first", x, () -> x.type(31));
        CHECK.same("the text has 60 still", x.clearText(), 60);
        CHECK.fails("typing is nothing to undo", IllegalStateException.class, x::undo);
    }

    private static void clearing() {
        EscrowCounter x = new EscrowCounter(2);
        CHECK.same("an empty text", x.clearText(), 0);
        Steps.type(x, "+0:7");
        CHECK.same("four characters", x.clearText(), 4);
        CHECK.same("none then", x.clearText(), 0);
        CHECK.same("nothing is run", x.runScript(), -1);
        Steps.type(x, "+0:7;t5");
        x.clearText();
        CHECK.same("what stood behind the text is no part of it", Steps.run(x, "+0"), -3);
        CHECK.same("nor is a digit", Steps.run(x, "+0:"), -4);
        x.clearText();
        CHECK.same("typing starts anew", x.type('t'), 1);
        CHECK.same("the new text counts", x.runScript(), -2);
        CHECK.fails("clearing is nothing to undo", IllegalStateException.class, x::undo);
    }

    private static void eachCommand() {
        EscrowCounter x = new EscrowCounter(2);
        CHECK.same("increase", Steps.run(x, "+0:7"), 1);
        CHECK.same("value", x.value(), 57);
        CHECK.same("the text is empty then", x.clearText(), 0);
        CHECK.same("decrease", Steps.run(x, "-0:10"), 1);
        CHECK.same("value", x.value(), 47);
        CHECK.same("transfer up", Steps.run(x, "u0>1:3"), 1);
        CHECK.same("own up", x.own(0, 0), 50);
        CHECK.same("transfer down", Steps.run(x, "d0>1:004"), 1);
        CHECK.same("own down", x.own(0, 1), 43);
        CHECK.same("message", Steps.run(x, "m0>1"), 1);
        CHECK.same("it has come", x.own(1, 0) * 10 + x.own(1, 1), 34);
        CHECK.same("it is not under way", x.messages(), 0);
        CHECK.same("time", Steps.run(x, "t999"), 1);
        CHECK.same("it has passed", x.time(), 999);
        CHECK.same("each change counts", x.version(0, 0), 4);
        CHECK.same("the copy has its time", x.copyTime(1, 0), 0);
    }

    private static void severalCommands() {
        EscrowCounter x = new EscrowCounter(3);
        CHECK.same("six commands", Steps.run(x, "+0:5;u0>2:9;m0>2;t12;+2:9;-2:4"), 6);
        CHECK.same("value", x.value(), 60);
        CHECK.same("own up at 2", x.own(2, 0), 4);
        CHECK.same("time", x.time(), 12);
        CHECK.same("known at 0", x.known(0), 55);
    }

    private static void errorPositions() {
        EscrowCounter x = new EscrowCounter(2);
        Object[][] cases = {
            {"", 0}, {" ", 0}, {";", 0}, {"x", 0}, {"0", 0}, {"+", 1}, {"+x", 1}, {"+0", 2}, {"+0>", 2},
            {"+0:", 3}, {"+0:x", 3}, {"+0:1x", 4}, {"+0:12x", 5}, {"+0:123x", 6}, {"+0:1234", 6},
            {"+0:1 ", 4}, {"+10:1", 2}, {"+0:1;", 5}, {"+0:1;;", 5}, {"+0:1;+", 6}, {"-", 1}, {"-0:-1", 3},
            {"u", 1}, {"u0", 2}, {"u0:", 2}, {"u0>", 3}, {"u0>a", 3}, {"u0>1", 4}, {"u0>1;", 4}, {"u0>1:", 5},
            {"u0>1:;", 5}, {"d0>1:1000", 8}, {"d0 >1:1", 2}, {"m", 1}, {"m0", 2}, {"m0>", 3}, {"m0>1:", 4},
            {"m0>12", 4}, {"m0<1", 2}, {"t", 1}, {"t;", 1}, {"t:1", 1}, {"t1000", 4}, {"t1,t1", 2}, {"T1", 0},
            {"t1;m0>1;t1;q", 11}, {"t/", 1}, {"t1/", 2}, {"t:", 1}, {"+/:1", 1}, {"+::1", 1}, {"~", 0}
        };
        for (Object[] each : cases) {
            String text = (String) each[0];
            CHECK.same("script '" + text + "'", Steps.run(x, text), -1 - (int) each[1]);
            CHECK.same("the text '" + text + "' stays", x.clearText(), text.length());
        }
        CHECK.same("time has not passed", x.time(), 0);
        CHECK.fails("no state was kept", IllegalStateException.class, x::undo);
    }

    private static void notPossible() {
        EscrowCounter x = new EscrowCounter(2);
        String[] texts = {
            "+2:1", "+9:1", "-2:1", "-0:51", "-1:1", "+0:51", "+0:0", "-0:000", "u0>1:51", "u1>0:1", "u0>0:1",
            "u2>0:1", "u0>2:1", "u0>1:0", "d0>1:51", "d0>0:1", "d0>7:1", "d0>1:00", "m0>0", "m0>2", "m2>0",
            "m5>5", "t0", "t000"
        };
        for (String text : texts) {
            String before = Picture.of(x);
            CHECK.same("script '" + text + "'", Steps.run(x, text), -1000);
            CHECK.same("script 't1;" + text + "'", Steps.run(x, "t1;" + text), -1001);
            CHECK.same("script '" + text + "' changes nothing", Picture.of(x), before);
        }
        CHECK.fails("no state was kept", IllegalStateException.class, x::undo);
    }

    private static void aScriptThatFailsChangesNothing() {
        EscrowCounter x = new EscrowCounter(3);
        x.increase(0, 3);
        x.send(0, 1);
        String before = Picture.of(x);
        CHECK.same("the last command fails", Steps.run(x, "+0:5;u0>2:9;m0>2;t12;+2:9;+2:1"), -1005);
        CHECK.same("all is as it was", Picture.of(x), before);
        CHECK.same("the text stays", Steps.lengthOfText(x), 30);
        CHECK.same("the message under way is as it was", x.deliver(0), 1);
        CHECK.same("known", x.known(1), 53);
        CHECK.same("no state was kept of the script", Steps.statesOf(x), 3);
    }

    private static void aRefusedCommandLeavesNoDemand() {
        EscrowCounter x = new EscrowCounter(2);
        CHECK.same("refused", Steps.run(x, "+1:5"), -1000);
        CHECK.same("no demand", x.demand(1, 1, 0), 0);
        CHECK.same("no version", x.version(1, 1), 0);
        CHECK.same("refused again with the text that stays", x.runScript(), -1000);
        x.transfer(0, 0, 1, 5);
        Steps.tell(x, 0, 1);
        CHECK.same("done with the text that stays", x.runScript(), 1);
        CHECK.same("value", x.value(), 55);
    }

    private static void theLongestScripts() {
        EscrowCounter x = new EscrowCounter(2);
        CHECK.same("twenty commands", Steps.run(x, "t1" + ";t1".repeat(19)), 20);
        CHECK.same("time", x.time(), 20);
        CHECK.same("the twentieth fails", Steps.run(x, "t1" + ";t1".repeat(18) + ";t0"), -1019);
        CHECK.same("sixty characters", Steps.run(x, "t1" + ";t1".repeat(18) + ";t10"), 20);
        CHECK.same("sixty characters that end too early", Steps.run(x, "t1;".repeat(20)), -61);
        CHECK.same("time", x.time(), 49);
    }

    private static void messagesInScripts() {
        EscrowCounter x = new EscrowCounter(2);
        for (int i = 0; i < 8; i++) {
            x.send(0, 1);
        }
        CHECK.same("eight under way", Steps.run(x, "t1;m0>1"), -1001);
        x.deliver(3);
        CHECK.same("seven under way", x.runScript(), 2);
        CHECK.same("seven are left", x.messages(), 7);
        CHECK.same("the script's message is the one that has come", x.copyTime(1, 0), 1);
    }

    private static void statesOfScripts() {
        EscrowCounter x = new EscrowCounter(2);
        String before = Picture.of(x);
        Steps.run(x, "+0:1;t5;u0>1:3;m0>1");
        CHECK.same("one state", x.undo(), 0);
        CHECK.same("all is as before", Picture.of(x), before);
        CHECK.same("the text does not come back", x.clearText(), 0);
        CHECK.same("a script that changes nothing", Steps.run(x, "m0>1"), 1);
        CHECK.same("all is as before", Picture.of(x), before);
        CHECK.same("has one state too", x.undo(), 0);
    }
}
