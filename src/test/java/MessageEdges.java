/** Messages in the description; promises 10 to 15. */
final class MessageEdges {
    private MessageEdges() {
    }

    static void all(Edges edges) {
        contents(edges);
        numbers(edges);
        sending(edges);
        delivering(edges);
        losing(edges);
        repeating(edges);
        asking(edges);
    }

    private static void contents(Edges edges) {
        edges.description("A message from a site to another one contains copies of all records that the sender has at "
                + "that time, each with its time", check -> {
            EscrowCounter x = new EscrowCounter(3);
            x.increase(1, 4);
            x.pass(1);
            Steps.tell(x, 1, 0);
            x.increase(0, 5);
            x.pass(2);
            x.send(0, 2);
            x.increase(0, 6);
            x.increase(1, 7);
            x.pass(1000);
            Steps.tell(x, 1, 0);
            check.same("late", x.deliver(0), 2);
            check.same("the sender's own record, as it was", x.known(2), 55);
            check.same("its version", x.version(2, 0), 1);
            check.same("its time", x.copyTime(2, 0), 3);
            check.same("the sender's copy, as it was", x.demand(2, 1, 0), 4);
            check.same("its version", x.version(2, 1), 1);
            check.same("its time is that of the copy", x.copyTime(2, 1), 1);
        });
        edges.description("the receiver replaces each copy (of sites other than itself)", check -> {
            EscrowCounter x = new EscrowCounter(2);
            x.increase(1, 4);
            Steps.tell(x, 1, 0);
            x.increase(1, 5);
            x.pass(3);
            check.same("one copy", Steps.tell(x, 0, 1), 1);
            check.same("its own version stays", x.version(1, 1), 2);
            check.same("its own demand stays", x.demand(1, 1, 0), 9);
            check.same("its own time stays", x.copyTime(1, 1), 3);
        });
        edges.description("that has a smaller version", check -> {
            EscrowCounter x = new EscrowCounter(2);
            x.increase(0, 1);
            x.send(0, 1);
            x.increase(0, 1);
            x.send(0, 1);
            check.same("greater by 1, of the same time", x.deliver(0), 1);
            check.same("and again", x.deliver(0), 1);
            check.same("version", x.version(1, 0), 2);
            x.undo();
            x.undo();
            check.same("the later one first", x.deliver(1), 1);
            check.same("an older version replaces nothing", x.deliver(0), 0);
            check.same("version", x.version(1, 0), 2);
            check.same("value", x.known(1), 52);
        });
        edges.description("with the same version, a smaller time than the one in the message", check -> {
            EscrowCounter x = new EscrowCounter(2);
            x.send(0, 1);
            x.pass(1);
            x.send(0, 1);
            x.repeat(1);
            check.same("the same version and time", x.deliver(0), 0);
            check.same("a time greater by 1", x.deliver(0), 1);
            check.same("time of the copy", x.copyTime(1, 0), 1);
            check.same("the same once more", x.deliver(0), 0);
            x.send(0, 1);
            x.pass(1);
            Steps.tell(x, 0, 1);
            check.same("an older time replaces nothing", x.deliver(0), 0);
            check.same("time of the copy", x.copyTime(1, 0), 2);
        });
    }

    private static void numbers(Edges edges) {
        edges.description("At most 8 messages are under way", check -> {
            check.same("the eighth", Scenes.withMessages(7).send(1, 0), 7);
            check.vain("a ninth", () -> Scenes.withMessages(8), IllegalStateException.class, x -> x.send(1, 0));
            check.vain("a ninth that is repeated", () -> Scenes.withMessages(8), IllegalStateException.class,
                    x -> x.repeat(7));
            EscrowCounter x = Scenes.withMessages(8);
            x.lose(7);
            check.same("when one is lost", x.send(1, 0), 7);
            x.deliver(0);
            check.same("when one is delivered", x.repeat(0), 7);
            x.undo();
            check.same("when one is undone", x.send(1, 0), 7);
        });
        edges.description("they are numbered from 0 in the order in which they were sent", check -> {
            EscrowCounter x = eightOfEightTimes();
            for (int i = 0; i < 8; i++) {
                check.same("time of " + i, x.message(i, 2), i);
            }
        });
        edges.description("when one has gone, the later ones have a number less by 1", check -> {
            check.same("the first by deliver", timesWithout(0, true), "1234567");
            check.same("the first by lose", timesWithout(0, false), "1234567");
            check.same("a middle one by deliver", timesWithout(3, true), "0124567");
            check.same("a middle one by lose", timesWithout(3, false), "0124567");
            check.same("the last by deliver", timesWithout(7, true), "0123456");
            check.same("the last by lose", timesWithout(7, false), "0123456");
        });
    }

    private static EscrowCounter eightOfEightTimes() {
        EscrowCounter x = new EscrowCounter(2);
        for (int i = 0; i < 8; i++) {
            x.send(0, 1);
            x.pass(1);
        }
        return x;
    }

    private static String timesWithout(int gone, boolean isDelivered) {
        EscrowCounter x = eightOfEightTimes();
        if (isDelivered) {
            x.deliver(gone);
        } else {
            x.lose(gone);
        }
        StringBuilder times = new StringBuilder();
        for (int i = 0; i < x.messages(); i++) {
            times.append(x.message(i, 2));
        }
        return times.toString();
    }

    private static void sending(Edges edges) {
        edges.promise(10, "Sends a message", check -> {
            EscrowCounter x = Scenes.lively();
            x.send(1, 2);
            check.same("it is under way", x.messages(), 3);
            check.same("and has not come", x.version(2, 1), 1);
        });
        edges.promise(10, "Returns the number of the message", check -> {
            for (int before = 0; before < 8; before++) {
                check.same("number", Scenes.withMessages(before).send(0, 1), before);
            }
        });
        edges.promise(10, "if both are the same", check -> {
            for (int n = 2; n <= 5; n++) {
                int sites = n;
                for (int s = 0; s < n; s++) {
                    int site = s;
                    check.vain("site " + s, () -> Scenes.spread(sites), IllegalArgumentException.class,
                            x -> x.send(site, site));
                }
            }
        });
        edges.promise(10, "if 8 messages are under way", check -> {
            check.vain("full", Scenes::full, IllegalStateException.class, x -> x.send(0, 1));
            check.same("with 7 there is room", Scenes.withMessages(7).send(0, 1), 7);
        });
    }

    private static void delivering(Edges edges) {
        edges.promise(11, "Delivers a message, which is not under way any more", check -> {
            EscrowCounter x = Scenes.withMessages(1);
            x.deliver(0);
            check.same("none is under way", x.messages(), 0);
            check.fails("it cannot be delivered again", IndexOutOfBoundsException.class, () -> x.deliver(0));
        });
        edges.promise(11, "Returns how many copies the receiver has replaced", check -> {
            for (int n = 2; n <= 5; n++) {
                EscrowCounter x = new EscrowCounter(n);
                check.same("none", Steps.tell(x, 0, 1), 0);
                x.pass(1);
                check.same("the sender's", Steps.tell(x, 0, 1), 1);
                x.pass(1);
                for (int from = 1; from < n - 1; from++) {
                    Steps.tell(x, from, 0);
                }
                check.same("all but the receiver's own", Steps.tell(x, 0, n - 1), n - 1);
            }
        });
        edges.promise(11, "if there is no such message", check -> {
            check.vain("of none", () -> new EscrowCounter(2), IndexOutOfBoundsException.class, x -> x.deliver(0));
            check.vain("of eight", Scenes::full, IndexOutOfBoundsException.class, x -> x.deliver(8));
            check.same("the last of eight", Scenes.withMessages(8).deliver(7), 0);
        });
    }

    private static void losing(Edges edges) {
        edges.promise(12, "Loses a message", check -> {
            EscrowCounter x = new EscrowCounter(2);
            x.increase(0, 1);
            x.send(0, 1);
            x.lose(0);
            check.same("nothing has come", x.version(1, 0), 0);
            check.same("none is under way", x.messages(), 0);
        });
        edges.promise(12, "Returns how many messages are under way then", check -> {
            EscrowCounter x = Scenes.withMessages(8);
            for (int left = 7; left >= 0; left--) {
                check.same("left", x.lose(left / 2), left);
            }
        });
        edges.promise(12, "if there is no such message", check -> {
            check.vain("of none", () -> new EscrowCounter(2), IndexOutOfBoundsException.class, x -> x.lose(0));
            check.vain("of eight", Scenes::full, IndexOutOfBoundsException.class, x -> x.lose(8));
        });
    }

    private static void repeating(Edges edges) {
        edges.promise(13, "one that is equal to it, also in the time at which it was sent, comes behind all others",
                check -> {
                    EscrowCounter x = new EscrowCounter(3);
                    x.increase(0, 4);
                    x.pass(6);
                    x.send(0, 2);
                    x.send(1, 0);
                    x.pass(1);
                    x.increase(0, 5);
                    check.same("number", x.repeat(0), 2);
                    check.same("sender", x.message(2, 0), 0);
                    check.same("receiver", x.message(2, 1), 2);
                    check.same("time", x.message(2, 2), 6);
                    check.same("the first stays", x.message(0, 2), 6);
                    check.same("the content", x.deliver(2), 1);
                    check.same("is that of the first", x.known(2), 54);
                    check.same("with its time", x.copyTime(2, 0), 6);
                    check.same("so that the first brings nothing", x.deliver(0), 0);
                });
        edges.promise(13, "Returns the number of the new message", check -> {
            for (int before = 1; before < 8; before++) {
                check.same("of the first", Scenes.withMessages(before).repeat(0), before);
                check.same("of the last", Scenes.withMessages(before).repeat(before - 1), before);
            }
        });
        edges.promise(13, "if there is no such message", check -> {
            check.vain("of none", () -> new EscrowCounter(2), IndexOutOfBoundsException.class, x -> x.repeat(0));
            check.vain("of seven", () -> Scenes.withMessages(7), IndexOutOfBoundsException.class, x -> x.repeat(7));
        });
        edges.promise(13, "if 8 messages are under way", check -> {
            check.vain("the first", Scenes::full, IllegalStateException.class, x -> x.repeat(0));
            check.vain("the last", Scenes::full, IllegalStateException.class, x -> x.repeat(7));
        });
    }

    private static void asking(Edges edges) {
        edges.promise(14, "Counts the messages that are under way", check -> {
            for (int messages = 0; messages <= 8; messages++) {
                check.same("messages", Scenes.withMessages(messages).messages(), messages);
            }
        });
        edges.promise(14, "Returns the number of messages", check -> {
            check.idle("none", () -> new EscrowCounter(2), 0, EscrowCounter::messages);
            check.idle("full", Scenes::full, 8, EscrowCounter::messages);
        });
        edges.promise(15, "Returns something about a message", check -> {
            EscrowCounter x = Scenes.full();
            check.same("the first", x.message(0, 0) + " " + x.message(0, 1) + " " + x.message(0, 2), "0 1 1");
            check.same("the last", x.message(7, 0) + " " + x.message(7, 1) + " " + x.message(7, 2), "1 2 8");
        });
        edges.promise(15, "Returns that number", check -> check.idle("full", Scenes::full, 8, x -> x.message(7, 2)));
        edges.promise(15, "if there is no such message", check -> {
            check.vain("of none", () -> new EscrowCounter(2), IndexOutOfBoundsException.class, x -> x.message(0, 0));
            check.vain("of eight", Scenes::full, IndexOutOfBoundsException.class, x -> x.message(8, 0));
        });
    }
}
