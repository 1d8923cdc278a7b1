/** Scripts in the description; promises 28 to 30. */
final class ScriptEdges {
    private static final String LONGEST = "t1" + ";t1".repeat(18) + ";t10";

    private ScriptEdges() {
    }

    static void all(Edges edges) {
        text(edges);
        grammar(edges);
        errors(edges);
        running(edges);
        typing(edges);
        answers(edges);
    }

    private static void text(Edges edges) {
        edges.description("There is a text, a buffer of at most 60 characters", check -> {
            EscrowCounter x = new EscrowCounter(2);
            for (int length = 1; length <= 60; length++) {
                check.same("length", x.type(LONGEST.charAt(length - 1)), length);
            }
            check.fails("a 61st", IllegalStateException.class, () -> x.type('0'));
            check.same("the first 60 are run", x.runScript(), 20);
            check.same("and no more", x.time(), 29);
        });
        edges.description("with codes from 32 to 126", check -> {
            for (int code = 32; code <= 126; code++) {
                check.same("code " + code, new EscrowCounter(2).type(code), 1);
            }
            for (int code : new int[] {31, 127, 0, -1, 128, 288, Integer.MIN_VALUE, Integer.MAX_VALUE}) {
                check.vain("code " + code, Scenes::lively, IllegalArgumentException.class, x -> x.type(code));
            }
        });
        edges.description("initially empty", check -> check.same("length", new EscrowCounter(2).clearText(), 0));
    }

    private static void grammar(Edges edges) {
        edges.description("A script consists of one or more commands with \";\" between them", check -> {
            check.same("none", run(""), -1);
            check.same("one", run("t1"), 1);
            check.same("two", run("t1;t1"), 2);
            check.same("twenty", run(LONGEST), 20);
            check.same("nothing between", run("t1t1"), -3);
            check.same("before the first", run(";t1"), -1);
            check.same("behind the last", run("t1;"), -4);
            check.same("two of them", run("t1;;t1"), -4);
            check.same("only that", run(";"), -1);
            check.same("a space too", run("t1; t1"), -4);
        });
        edges.description("A number is one to three digits", check -> {
            check.same("no digit", run("t"), -2);
            check.same("no digit before the next command", run("t;t1"), -2);
            check.same("one digit", timeAfter("t9"), 9);
            check.same("two digits", timeAfter("t10"), 10);
            check.same("three digits", timeAfter("t999"), 999);
            check.same("three digits with zeros", timeAfter("t001"), 1);
            check.same("four digits", run("t1000"), -5);
            check.same("four digits with a zero", run("t0001"), -5);
            check.same("four digits of an amount", run("+0:0001"), -7);
            check.same("a sign", run("t-1"), -2);
            EscrowCounter x = new EscrowCounter(2);
            Steps.run(x, "t12");
            Steps.run(x, "t3");
            check.same("one script after another", x.time(), 15);
        });
        edges.description("a site is any one digit (a command with a site that does not exist is not", check -> {
            for (int site = 0; site <= 9; site++) {
                int due = site < 2 ? 1 : -1000;
                check.same("message from " + site, run("m" + site + ">" + (site == 0 ? 1 : 0)), due);
                check.same("message to " + site, run("m" + (site == 0 ? 1 : 0) + ">" + site), due);
                check.same("increase", run("+" + site + ":1"), site == 0 ? 1 : -1000);
                check.same("decrease", run("-" + site + ":1"), site == 0 ? 1 : -1000);
                check.same("transfer up from", run("u" + site + ">1:1"), site == 0 ? 1 : -1000);
                check.same("transfer up to", run("u0>" + site + ":1"), site == 1 ? 1 : -1000);
                check.same("transfer down from", run("d" + site + ">1:1"), site == 0 ? 1 : -1000);
                check.same("transfer down to", run("d0>" + site + ":1"), site == 1 ? 1 : -1000);
            }
            check.same("two digits", run("+00:1"), -3);
            check.same("no digit", run("+:1"), -2);
            check.same("the last of five", Steps.run(new EscrowCounter(5), "m0>4"), 1);
            check.same("one behind it", Steps.run(new EscrowCounter(5), "m0>5"), -1000);
        });
        commands(edges);
    }

    private static int run(String text) {
        return Steps.run(new EscrowCounter(2), text);
    }

    private static int timeAfter(String text) {
        EscrowCounter x = new EscrowCounter(2);
        Steps.run(x, text);
        return x.time();
    }

    private static void commands(Edges edges) {
        edges.description("\"+\" site \":\" number (increase)", check -> {
            check.same("all rights", valueAfter("+0:50"), 100);
            check.same("one too many", run("+0:51"), -1000);
            check.same("none", run("+0:0"), -1000);
        });
        edges.description("\"-\" site \":\" number (decrease)", check -> {
            check.same("all rights", valueAfter("-0:50"), 0);
            check.same("one too many", run("-0:51"), -1000);
            check.same("none", run("-0:000"), -1000);
        });
        edges.description("\"u\" site \">\" site \":\" number (transfer rights of kind 0)", check -> {
            check.same("all rights", rightsAfter("u0>1:50"), "0 50");
            check.same("one too many", run("u0>1:51"), -1000);
            check.same("none", run("u0>1:0"), -1000);
            check.same("to itself", run("u0>0:1"), -1000);
        });
        edges.description("\"d\" site \">\" site \":\" number (transfer rights of kind 1)", check -> {
            check.same("all rights", rightsAfter("d0>1:50"), "50 0");
            check.same("one too many", run("d0>1:51"), -1000);
            check.same("none", run("d0>1:00"), -1000);
            check.same("to itself", run("d0>0:1"), -1000);
        });
        edges.description("\"m\" site \">\" site (send a message and deliver it at once)", check -> {
            EscrowCounter x = new EscrowCounter(2);
            check.same("behind a transfer", Steps.run(x, "u0>1:9;m0>1"), 2);
            check.same("it has come", x.own(1, 0), 9);
            check.same("it is not under way", x.messages(), 0);
            check.same("to itself", run("m1>1"), -1000);
            check.same("with 7 under way", Steps.run(Scenes.withMessages(7), "m0>1;m1>0"), 2);
            check.same("with 8 under way", Steps.run(Scenes.withMessages(8), "m0>1"), -1000);
        });
        edges.description("\"t\" number (let time pass)", check -> {
            check.same("the least", timeAfter("t1"), 1);
            check.same("the greatest", timeAfter("t999"), 999);
            check.same("none", run("t0"), -1000);
        });
    }

    private static int valueAfter(String text) {
        EscrowCounter x = new EscrowCounter(2);
        Steps.run(x, text);
        return x.value();
    }

    private static String rightsAfter(String text) {
        EscrowCounter x = new EscrowCounter(2);
        Steps.run(x, text);
        return x.own(0, 0) + " " + x.own(0, 1);
    }

    private static void errors(Edges edges) {
        edges.description("the index of the first character that cannot stand at its place", check -> {
            for (String command : new String[] {"+0:1", "-1:23", "u0>1:456", "d1>0:7", "m0>1", "t89"}) {
                for (int at = 0; at < command.length(); at++) {
                    String spoilt = command.substring(0, at) + "~" + command.substring(at + 1);
                    check.same(spoilt, run(spoilt), -1 - at);
                    check.same("t1;" + spoilt, run("t1;" + spoilt), -4 - at);
                }
                check.same("behind " + command, run(command + "~"), -1 - command.length());
            }
            check.same("the first of two", run("+x:y"), -2);
            check.same("a site that does not exist can stand there", run("+9:x"), -4);
            check.same("what is refused can stand there", run("+1:9;x"), -6);
            check.same("the signs before 0 and behind 9", run("t/") + run("t:"), -4);
            check.same("the last of 60", run("t1;".repeat(19) + "t1~"), -60);
        });
        edges.description("(a fourth digit cannot)", check -> {
            check.same("of a time", run("t0000"), -5);
            check.same("of an increase", run("+0:1111"), -7);
            check.same("of a decrease", run("-0:1111"), -7);
            check.same("of a transfer up", run("u0>1:1111"), -9);
            check.same("of a transfer down", run("d0>1:1111"), -9);
            check.same("a fifth matters no more", run("t11111"), -5);
        });
        edges.description("or its length if it ends too early", check -> {
            check.same("the empty text", run(""), -1);
            for (String command : new String[] {"+0:1", "-1:2", "u0>1:4", "d1>0:7", "m0>1", "t8"}) {
                for (int length = 0; length < command.length(); length++) {
                    String part = command.substring(0, length);
                    check.same(part, run(part), -1 - length);
                    check.same("t1;" + part, run("t1;" + part), -4 - length);
                }
            }
            check.same("60 characters", run("t1;".repeat(20)), -61);
        });
    }

    private static void running(Edges edges) {
        edges.description("A script is run command by command", check -> {
            check.same("each finds what those before it did", run("+0:50;-0:100;u0>1:100;m0>1;+1:100"), 5);
            check.same("the first that is not possible counts", run("t1;+0:51;+0:52"), -1001);
            check.same("rights that come too late", run("u0>1:5;+1:5;m0>1"), -1001);
            check.same("a use of a loan", Steps.run(Scenes.lively(), "+2:6"), 1);
            check.same("its end within the script", Steps.run(Scenes.lively(), "t7;+2:1"), -1001);
        });
        edges.description("If a command is refused or not possible (by the rules of the methods below), "
                + "the whole script fails, and nothing is changed, neither is the demand nor the text", check -> {
            String done = "+0:2;-0:1;u0>1:2;d0>2:3;m0>2;t9;";
            String[] lasts = {"+1:9", "-1:9", "+3:1", "+0:0", "u0>1:99", "d0>0:1", "m1>1", "m0>7", "t0"};
            for (String last : lasts) {
                check.idle(last, () -> livelyWith(last), -1000, EscrowCounter::runScript);
                check.idle(done + last, () -> livelyWith(done + last), -1006, EscrowCounter::runScript);
            }
            check.idle("the longest", () -> livelyWith("t1;".repeat(19) + "+9:"), -61, EscrowCounter::runScript);
        });
    }

    private static EscrowCounter livelyWith(String text) {
        EscrowCounter x = Scenes.lively();
        x.clearText();
        Steps.type(x, text);
        return x;
    }

    private static void typing(Edges edges) {
        edges.promise(28, "Appends a character to the text", check -> {
            EscrowCounter x = new EscrowCounter(2);
            Steps.type(x, "t12");
            x.runScript();
            check.same("in the order of typing", x.time(), 12);
        });
        edges.promise(28, "Returns the length of the text", check -> {
            check.same("the first", new EscrowCounter(2).type(' '), 1);
            check.same("the 60th", Scenes.withText(" ".repeat(59)).type(' '), 60);
            check.same("behind a text", Scenes.lively().type(';'), 8);
        });
        edges.promise(28, "if the text has 60 characters already", check -> {
            check.vain("a good code", Scenes::full, IllegalStateException.class, x -> x.type('0'));
            check.same("59 characters", Scenes.withText(" ".repeat(59)).type('0'), 60);
        });
        edges.promise(29, "Makes the text empty", check -> {
            EscrowCounter x = Scenes.full();
            x.clearText();
            check.same("there is no script", x.runScript(), -1);
            check.same("there is room again", x.type('t'), 1);
            check.same("what stood there is gone", x.runScript(), -2);
            EscrowCounter other = Scenes.withText("+0:7;t5");
            check.same("the signs", Steps.run(other, "+0"), -3);
            check.same("the digits", Steps.run(other, "+0:"), -4);
            check.same("and the commands behind", Steps.run(other, "+0:7"), 1);
        });
        edges.promise(29, "Returns the length that it had", check -> {
            check.same("none", new EscrowCounter(2).clearText(), 0);
            check.same("one", Scenes.withText(" ").clearText(), 1);
            check.same("sixty", Scenes.full().clearText(), 60);
        });
    }

    private static void answers(Edges edges) {
        edges.promise(30, "Runs the text as a script", check -> {
            EscrowCounter x = Scenes.lively();
            check.same("two commands", x.runScript(), 2);
            check.same("value", x.value(), 53);
            check.same("time", x.time(), 6);
        });
        edges.promise(30, "The text is empty then, if it does not fail", check -> {
            EscrowCounter x = Scenes.full();
            check.same("twenty commands", x.runScript(), 20);
            check.same("length", x.clearText(), 0);
            check.same("run again", x.runScript(), -1);
        });
        edges.promise(30, "(otherwise it stays)", check -> {
            check.idle("no script", () -> Scenes.withText("t1;t1234"), -8, EscrowCounter::runScript);
            check.idle("refused", () -> Scenes.withText("t1;+1:1"), -1001, EscrowCounter::runScript);
            EscrowCounter x = Scenes.withText("t1;+1:1");
            x.runScript();
            check.same("length", x.clearText(), 7);
        });
        edges.promise(30, "Returns the number of commands", check -> {
            check.same("the fewest", run("t1"), 1);
            check.same("the most", run(LONGEST), 20);
        });
        edges.promise(30, "-1 minus the error position if the text is no script", check -> {
            check.same("the least position", run(""), -1);
            check.same("a position of 59", run("t1;".repeat(19) + "t1x"), -60);
            check.same("the greatest position", run("t1;".repeat(20)), -61);
            check.same("an error behind a command that is refused", run("+1:1;"), -6);
        });
        edges.promise(30, "-1000 minus the index of the command (from 0) that is refused or not possible", check -> {
            check.same("the first", run("+1:1"), -1000);
            check.same("the second", run("t1;+1:1"), -1001);
            check.same("the last of twenty", run("t1;".repeat(19) + "t0"), -1019);
        });
    }
}
