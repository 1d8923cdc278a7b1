import java.util.ArrayList;
import java.util.List;
import java.util.function.Consumer;

/** Promise 31: undo. */
final class HistoryTest {
    private static final Check CHECK = new Check("HistoryTest");

    public static void main(String[] args) {
        eachChangeCanBeUndone();
        askingIsNoChange();
        fiveStates();
        undoneChangesAreForgotten();
        contentOfMessagesComesBack();
        emptyHistory();
        CHECK.end();
    }

    private static void eachChangeCanBeUndone() {
        List<Consumer<EscrowCounter>> changes = new ArrayList<>();
        changes.add(x -> x.increase(2, 3));
        changes.add(x -> x.increase(2, 30));
        changes.add(x -> x.decrease(0, 3));
        changes.add(x -> x.decrease(1, 30));
        changes.add(x -> x.transfer(1, 0, 2, 7));
        changes.add(x -> x.lend(1, 0, 2, 7, 7));
        changes.add(x -> x.rebalance(0, 0));
        changes.add(x -> x.pass(20));
        changes.add(x -> x.send(1, 2));
        changes.add(x -> x.deliver(0));
        changes.add(x -> x.deliver(1));
        changes.add(x -> x.lose(0));
        changes.add(x -> x.repeat(1));
        changes.add(EscrowCounter::runScript);
        for (int i = 0; i < changes.size(); i++) {
            EscrowCounter x = Scenes.lively();
            String before = Picture.of(x);
            long print = x.fingerprint();
            changes.get(i).accept(x);
            CHECK.note(!Picture.of(x).equals(before), "change " + i + " changes nothing");
            CHECK.same("undo of change " + i, x.undo(), 4);
            CHECK.same("all is as before change " + i, Picture.of(x), before);
            CHECK.same("fingerprint before change " + i, x.fingerprint(), print);
        }
    }

    private static void askingIsNoChange() {
        EscrowCounter x = new EscrowCounter(2);
        Picture.of(x);
        x.helpers(0, 0, 60);
        x.fingerprint();
        x.type('a');
        x.runScript();
        x.clearText();
        x.rebalance(0, 0);
        CHECK.fails("nothing to undo", IllegalStateException.class, x::undo);
    }

    private static void fiveStates() {
        EscrowCounter x = new EscrowCounter(2);
        for (int i = 1; i <= 5; i++) {
            x.pass(1);
        }
        CHECK.same("five states", Steps.statesOf(x), 5);
        CHECK.same("back at the beginning", x.time(), 0);
        for (int i = 1; i <= 23; i++) {
            x.pass(1);
        }
        for (int left = 4; left >= 0; left--) {
            CHECK.same("states left", x.undo(), left);
            CHECK.same("time with states left " + left, x.time(), 18 + left);
        }
        CHECK.badState("no state is left", x, x::undo);
        CHECK.same("time", x.time(), 18);
    }

    private static void undoneChangesAreForgotten() {
        EscrowCounter x = new EscrowCounter(2);
        x.pass(1);
        x.pass(10);
        CHECK.same("one state is left", x.undo(), 1);
        x.pass(100);
        CHECK.same("time", x.time(), 101);
        CHECK.same("undo of the new change", x.undo(), 1);
        CHECK.same("time", x.time(), 1);
        CHECK.same("undo of the first change", x.undo(), 0);
        CHECK.same("time", x.time(), 0);
    }

    private static void contentOfMessagesComesBack() {
        EscrowCounter x = new EscrowCounter(3);
        x.increase(0, 4);
        x.send(0, 1);
        x.increase(0, 5);
        x.send(0, 2);
        x.lose(0);
        x.lose(0);
        x.undo();
        x.undo();
        CHECK.same("the first", x.deliver(0), 1);
        CHECK.same("with its content", x.known(1), 54);
        CHECK.same("the second", x.deliver(0), 1);
        CHECK.same("with its content", x.known(2), 59);
    }

    private static void emptyHistory() {
        EscrowCounter x = new EscrowCounter(2);
        CHECK.badState("a new object", x, x::undo);
        x.increase(0, 1);
        x.begin(0, 9, 3);
        CHECK.badState("after begin", x, x::undo);
    }
}
