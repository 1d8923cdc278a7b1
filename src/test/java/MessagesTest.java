/** Promises 10 to 15: send, deliver, lose, repeat, messages, message. */
final class MessagesTest {
    private static final Check CHECK = new Check("MessagesTest");

    public static void main(String[] args) {
        sendingAndAsking();
        contentIsOfTheTimeOfSending();
        newerCopiesStay();
        theSameVersionWithALaterTime();
        newsOfThirdSites();
        losing();
        repeating();
        eightMessages();
        wrongInputs();
        CHECK.end();
    }

    private static void sendingAndAsking() {
        EscrowCounter x = new EscrowCounter(3);
        CHECK.same("the first message", x.send(0, 2), 0);
        x.pass(4);
        CHECK.same("the second message", x.send(1, 0), 1);
        CHECK.same("two are under way", x.messages(), 2);
        CHECK.same("sender of 0", x.message(0, 0), 0);
        CHECK.same("receiver of 0", x.message(0, 1), 2);
        CHECK.same("time of 0", x.message(0, 2), 0);
        CHECK.same("sender of 1", x.message(1, 0), 1);
        CHECK.same("receiver of 1", x.message(1, 1), 0);
        CHECK.same("time of 1", x.message(1, 2), 4);
        CHECK.same("sending is no change of a record", x.version(0, 0), 0);
        CHECK.same("the first brings nothing new", x.deliver(0), 0);
        CHECK.same("one is under way", x.messages(), 1);
        CHECK.same("with number 0 now", x.message(0, 0), 1);
        CHECK.same("its time", x.message(0, 2), 4);
    }

    private static void contentIsOfTheTimeOfSending() {
        EscrowCounter x = new EscrowCounter(2);
        x.increase(0, 3);
        x.pass(2);
        x.send(0, 1);
        x.increase(0, 4);
        x.pass(5);
        CHECK.same("replaced", x.deliver(0), 1);
        CHECK.same("known", x.known(1), 53);
        CHECK.same("version", x.version(1, 0), 1);
        CHECK.same("time of the copy", x.copyTime(1, 0), 2);
        CHECK.same("value", x.value(), 57);
        CHECK.same("the sender knows all", x.known(0), 57);
    }

    private static void newerCopiesStay() {
        EscrowCounter x = new EscrowCounter(2);
        x.increase(0, 1);
        x.send(0, 1);
        x.increase(0, 2);
        x.send(0, 1);
        CHECK.same("the later one first", x.deliver(1), 1);
        CHECK.same("known by it", x.known(1), 53);
        CHECK.same("the late one replaces nothing", x.deliver(0), 0);
        CHECK.same("known as before", x.known(1), 53);
        CHECK.same("version as before", x.version(1, 0), 2);
    }

    private static void theSameVersionWithALaterTime() {
        EscrowCounter x = new EscrowCounter(2);
        x.send(0, 1);
        x.pass(3);
        x.send(0, 1);
        CHECK.same("the same version and time", x.deliver(0), 0);
        CHECK.same("the same version, a later time", x.deliver(0), 1);
        CHECK.same("time of the copy", x.copyTime(1, 0), 3);
        CHECK.same("version of the copy", x.version(1, 0), 0);
        CHECK.same("time of the other site's copy", x.copyTime(0, 1), 0);
    }

    private static void newsOfThirdSites() {
        EscrowCounter x = new EscrowCounter(4);
        x.increase(1, 8);
        x.pass(1);
        CHECK.same("1 tells 2", Steps.tell(x, 1, 2), 1);
        x.pass(1);
        CHECK.same("2 tells 3 of itself and of 1", Steps.tell(x, 2, 3), 2);
        CHECK.same("demand of 1 at 3", x.demand(3, 1, 0), 8);
        CHECK.same("time of the copy of 1 is as it was at 2", x.copyTime(3, 1), 1);
        CHECK.same("time of the copy of 2", x.copyTime(3, 2), 2);
        x.increase(1, 5);
        CHECK.same("3 tells 1 of itself and of 2", Steps.tell(x, 3, 1), 2);
        CHECK.same("its own record is not replaced", x.version(1, 1), 2);
        CHECK.same("nor its demand", x.demand(1, 1, 0), 13);
    }

    private static void losing() {
        EscrowCounter x = new EscrowCounter(3);
        x.increase(0, 1);
        x.send(0, 1);
        x.send(1, 2);
        x.send(0, 2);
        CHECK.same("two are left", x.lose(1), 2);
        CHECK.same("the later one has moved", x.message(1, 1), 2);
        CHECK.same("the earlier one has not", x.message(0, 1), 1);
        CHECK.same("one is left", x.lose(0), 1);
        CHECK.same("1 has not heard", x.version(1, 0), 0);
        CHECK.same("2 hears", x.deliver(0), 1);
        CHECK.same("of 0", x.version(2, 0), 1);
        CHECK.same("undo brings it back", x.undo(), 4);
        CHECK.same("one is under way again", x.messages(), 1);
        x.undo();
        CHECK.same("then two", x.messages(), 2);
        CHECK.same("the first", x.message(0, 1), 1);
        CHECK.same("delivered after all", x.deliver(0), 1);
        CHECK.same("1 has heard", x.version(1, 0), 1);
    }

    private static void repeating() {
        EscrowCounter x = new EscrowCounter(2);
        x.increase(0, 2);
        x.pass(1);
        x.send(0, 1);
        x.send(1, 0);
        x.pass(6);
        x.increase(0, 2);
        CHECK.same("behind all others", x.repeat(0), 2);
        CHECK.same("its sender", x.message(2, 0), 0);
        CHECK.same("its receiver", x.message(2, 1), 1);
        CHECK.same("its time", x.message(2, 2), 1);
        CHECK.same("the first", x.deliver(0), 1);
        CHECK.same("the repeated one", x.deliver(1), 0);
        CHECK.same("known by the content of the first", x.known(1), 52);
        CHECK.same("a copy of the first's time", x.copyTime(1, 0), 1);
        CHECK.same("one is left", x.messages(), 1);
        CHECK.same("it can be repeated", x.repeat(0), 1);
        CHECK.same("the first is lost", x.lose(0), 1);
        CHECK.same("the repeated one counts", x.deliver(0), 1);
    }

    private static void eightMessages() {
        EscrowCounter x = new EscrowCounter(2);
        for (int i = 0; i < 7; i++) {
            CHECK.same("message " + i, x.send(i % 2, 1 - i % 2), i);
        }
        CHECK.same("the eighth is a repeated one", x.repeat(1), 7);
        CHECK.badState("a ninth", x, () -> x.send(0, 1));
        CHECK.badState("a ninth by repeating", x, () -> x.repeat(0));
        CHECK.noSuch("no such message is listed first", x, () -> x.repeat(8));
        CHECK.badArgument("to itself is listed first", x, () -> x.send(1, 1));
        CHECK.noSuch("no such site is listed first", x, () -> x.send(2, 2));
        CHECK.same("no message in a script either", Steps.run(x, "m0>1"), -1000);
        x.lose(7);
        CHECK.same("with seven there is", x.runScript(), 1);
        CHECK.same("which goes at once", x.messages(), 7);
    }

    private static void wrongInputs() {
        EscrowCounter x = new EscrowCounter(2);
        CHECK.noSuch("from -1", x, () -> x.send(-1, 0));
        CHECK.noSuch("from 2", x, () -> x.send(2, 0));
        CHECK.noSuch("to -1", x, () -> x.send(0, -1));
        CHECK.noSuch("to 2", x, () -> x.send(0, 2));
        CHECK.badArgument("to itself", x, () -> x.send(1, 1));
        CHECK.noSuch("deliver without messages", x, () -> x.deliver(0));
        CHECK.noSuch("lose without messages", x, () -> x.lose(0));
        CHECK.noSuch("repeat without messages", x, () -> x.repeat(0));
        CHECK.noSuch("message without messages", x, () -> x.message(0, 0));
        CHECK.fails("no state was kept", IllegalStateException.class, x::undo);
        x.send(0, 1);
        CHECK.noSuch("deliver -1", x, () -> x.deliver(-1));
        CHECK.noSuch("deliver 1", x, () -> x.deliver(1));
        CHECK.noSuch("lose -1", x, () -> x.lose(-1));
        CHECK.noSuch("lose 1", x, () -> x.lose(1));
        CHECK.noSuch("repeat -1", x, () -> x.repeat(-1));
        CHECK.noSuch("repeat 1", x, () -> x.repeat(1));
        CHECK.noSuch("message -1", x, () -> x.message(-1, 0));
        CHECK.noSuch("message 1", x, () -> x.message(1, 0));
        CHECK.noSuch("what -1", x, () -> x.message(0, -1));
        CHECK.noSuch("what 3", x, () -> x.message(0, 3));
    }
}
