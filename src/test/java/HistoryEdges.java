import java.math.BigInteger;
import java.util.function.ToLongFunction;

/** The history in the description; promises 31 and 32. */
final class HistoryEdges {
    private HistoryEdges() {
    }

    static void all(Edges edges) {
        limits(edges);
        whatAddsAState(edges);
        undoing(edges);
        fingerprints(edges);
    }

    private static void limits(Edges edges) {
        edges.description("A history of at most 5 states is kept", check -> {
            for (int changes = 0; changes <= 7; changes++) {
                check.same("states of " + changes, Steps.statesOf(passed(changes)), Math.min(changes, 5));
            }
            check.same("states of 400", Steps.statesOf(passed(400)), 5);
        });
        edges.description("and if there are 5 already, the oldest one is dropped", check -> {
            for (int changes = 5; changes <= 19; changes++) {
                EscrowCounter x = passed(changes);
                for (int back = 1; back <= 5; back++) {
                    x.undo();
                    check.same("time " + back + " before " + changes, x.time(), changes - back);
                }
                check.fails("one more", IllegalStateException.class, x::undo);
            }
        });
        edges.description("undo() removes the latest state and restores it", check -> {
            EscrowCounter x = passed(7);
            x.undo();
            x.undo();
            x.pass(10);
            check.same("time", x.time(), 15);
            check.same("the states are the three of before and one", x.undo(), 3);
            check.same("time", x.time(), 5);
            for (int left = 2; left >= 0; left--) {
                check.same("states", x.undo(), left);
                check.same("time", x.time(), left + 2);
            }
            check.fails("undo is no change that could be undone", IllegalStateException.class, x::undo);
        });
    }

    /** A counter on which time has passed, by 1 with each change. */
    private static EscrowCounter passed(int changes) {
        EscrowCounter x = new EscrowCounter(2);
        for (int i = 0; i < changes; i++) {
            x.pass(1);
        }
        return x;
    }

    private static void whatAddsAState(Edges edges) {
        edges.description("something of sites, loans, messages or the time adds the state before it",
                check -> {
                    addsOne(check, "increase", x -> x.increase(2, 3) ? 1 : 0);
                    addsOne(check, "decrease", x -> x.decrease(0, 3) ? 1 : 0);
                    addsOne(check, "transfer", x -> x.transfer(1, 0, 2, 7));
                    addsOne(check, "lend", x -> x.lend(1, 0, 2, 7, 7));
                    addsOne(check, "rebalance", x -> x.rebalance(0, 0));
                    addsOne(check, "pass", x -> x.pass(20));
                    addsOne(check, "send", x -> x.send(1, 2));
                    addsOne(check, "deliver", x -> x.deliver(0));
                    addsOne(check, "lose", x -> x.lose(1));
                    addsOne(check, "repeat", x -> x.repeat(1));
                    addsOne(check, "a message that brings nothing", x -> x.deliver(x.repeat(0)), 2);
                    addsNone(check, "type", x -> x.type('t'));
                    addsNone(check, "clearText", EscrowCounter::clearText);
                    addsNone(check, "a rebalancing of nothing", x -> x.rebalance(0, 1));
                    addsNone(check, "questions", x -> Picture.of(x).length() + x.helpers(0, 0, 50) + x.fingerprint());
                });
        edges.description("each call that changes something", check -> {
            EscrowCounter x = new EscrowCounter(2);
            x.increase(1, 1);
            Steps.tell(x, 1, 0);
            x.transfer(0, 0, 1, 49);
            check.same("a rebalancing of one right", x.rebalance(0, 0), 1);
            check.same("states", x.undo(), 4);
            check.same("the right is back", x.own(0, 0), 1);
        });
        edges.description("(a refused change, too, as it changes the demand", check -> {
            addsOne(check, "increase", x -> x.increase(1, 999) ? 1 : 0);
            addsOne(check, "decrease", x -> x.decrease(1, 999) ? 1 : 0);
            EscrowCounter x = new EscrowCounter(2);
            for (int i = 0; i < 102; i++) {
                x.increase(1, 999);
            }
            check.same("at the greatest demand", x.undo(), 4);
            check.same("which stays", x.demand(1, 1, 0), 100000);
            check.same("the version before", x.version(1, 1), 101);
        });
        edges.description("a script that does not fail adds one state, even if nothing has changed", check -> {
            addsOne(check, "two commands", EscrowCounter::runScript);
            EscrowCounter x = Scenes.withText("m0>1");
            String before = Picture.of(x);
            check.same("a script without a change", x.runScript(), 1);
            check.same("nothing has changed", Picture.of(x), before);
            check.same("one state", Steps.statesOf(x), 1);
        });
        edges.description("one that fails none", check -> {
            check.idle("refused", () -> Scenes.withText("t1;+1:1"), -1001, EscrowCounter::runScript);
            check.idle("no script", () -> Scenes.withText("t1;+1:"), -7, EscrowCounter::runScript);
            addsNone(check, "refused", x -> Steps.run(x, "t1;t1;t1;t1;t1;t1;+1:1"));
            addsNone(check, "no script", x -> Steps.run(x, "t1;"));
        });
    }

    private static void addsOne(Check check, String what, ToLongFunction<EscrowCounter> call) {
        addsOne(check, what, call, 1);
    }

    /** From a history of 2 states: then there are so many more, and undo brings back what was before. */
    private static void addsOne(Check check, String what, ToLongFunction<EscrowCounter> call, int more) {
        EscrowCounter x = withTwoStates();
        String before = Picture.of(x);
        call.applyAsLong(x);
        for (int i = 1; i <= more; i++) {
            check.same(what + ": states", x.undo(), 2 + more - i);
        }
        check.same(what + ": undone", Picture.of(x), before);
        EscrowCounter full = Scenes.lively();
        String fullBefore = Picture.of(full);
        call.applyAsLong(full);
        for (int i = 1; i <= more; i++) {
            check.same(what + ": states of a full history", full.undo(), 5 - i);
        }
        check.same(what + ": undone in a full history", Picture.of(full), fullBefore);
    }

    private static void addsNone(Check check, String what, ToLongFunction<EscrowCounter> call) {
        EscrowCounter x = withTwoStates();
        call.applyAsLong(x);
        check.same(what + ": states", Steps.statesOf(x), 2);
    }

    private static EscrowCounter withTwoStates() {
        EscrowCounter x = Scenes.lively();
        x.undo();
        x.undo();
        x.undo();
        x.undo();
        x.undo();
        x.send(1, 0);
        x.send(0, 1);
        return x;
    }

    private static void undoing(Edges edges) {
        edges.promise(31, "Undoes the latest change", check -> {
            EscrowCounter x = new EscrowCounter(2);
            x.transfer(0, 0, 1, 50);
            x.lend(1, 0, 1, 50, 1000);
            x.undo();
            check.same("the loan is gone", x.loans(), 0);
            check.same("its rights are back", x.own(0, 1), 50);
            check.same("the transfer is not undone", x.own(0, 0), 0);
            check.same("the text is none of it", textAfterUndo(), 3);
        });
        edges.promise(31, "Returns how many states the history still has", check -> {
            EscrowCounter x = Scenes.full();
            for (int left = 4; left >= 0; left--) {
                check.same("states", x.undo(), left);
            }
        });
        edges.promise(31, "IllegalStateException if it has none", check -> {
            check.vain("a new object", () -> new EscrowCounter(2), IllegalStateException.class, EscrowCounter::undo);
            check.vain("after five", HistoryEdges::allUndone, IllegalStateException.class, EscrowCounter::undo);
            check.vain("after begin", HistoryEdges::begunAnew, IllegalStateException.class, EscrowCounter::undo);
        });
    }

    private static int textAfterUndo() {
        EscrowCounter x = new EscrowCounter(2);
        x.type('t');
        x.pass(1);
        x.type('1');
        x.undo();
        x.type('2');
        return x.clearText();
    }

    private static EscrowCounter allUndone() {
        EscrowCounter x = Scenes.full();
        for (int i = 0; i < 5; i++) {
            x.undo();
        }
        return x;
    }

    private static EscrowCounter begunAnew() {
        EscrowCounter x = Scenes.full();
        x.begin(0, 1, 1);
        return x;
    }

    private static void fingerprints(Edges edges) {
        edges.promise(32, "Returns a fingerprint", check -> {
            EscrowCounter x = new EscrowCounter(2);
            long first = x.fingerprint();
            x.increase(0, 1);
            check.note(x.fingerprint() != first, "a change of the value is not seen");
        });
        edges.promise(32, "It starts as 71; then, for each of the following numbers, in this order, "
                + "it becomes 31 times itself plus the number", check -> {
            int[] numbers = {0, 50, 0, 0, 50, 50, 50, 50, 50, 0, 0, 0, 0, 0, 0, 0, 0, 50, 0, 0, 0, 0};
            check.same("of a new object of 2 sites", new EscrowCounter(2).fingerprint(), wrapped(numbers));
        });
        edges.promise(32, "in long arithmetic with overflow", check -> {
            for (int n = 2; n <= 5; n++) {
                check.same("of " + n + " sites", Scenes.spread(n).fingerprint(), wrapped(numbersOf(Scenes.spread(n))));
            }
            EscrowCounter x = Scenes.spread(5);
            x.begin(-10000, -10000, -10000);
            check.same("with numbers under 0", x.fingerprint(), wrapped(numbersOf(x)));
        });
        edges.promise(32, "for each loan loan() 5 to 7", check -> {
            for (int loans = 0; loans <= 10; loans++) {
                EscrowCounter x = Scenes.withLoans(loans);
                check.same("of " + loans, x.fingerprint(), wrapped(numbersOf(x)));
                Steps.tell(x, 0, 1);
                check.same("known", x.fingerprint(), wrapped(numbersOf(x)));
                x.pass(5);
                Steps.tell(x, 1, 0);
                check.same("come back", x.fingerprint(), wrapped(numbersOf(x)));
            }
        });
        edges.promise(32, "Returns the fingerprint", check -> check.idle("full", Scenes::full,
                wrapped(numbersOf(Scenes.full())), EscrowCounter::fingerprint));
    }

    /** Without any overflow, cut to a long in the end. */
    private static long wrapped(int[] numbers) {
        BigInteger print = BigInteger.valueOf(71);
        for (int number : numbers) {
            print = print.multiply(BigInteger.valueOf(31)).add(BigInteger.valueOf(number));
        }
        return print.longValue();
    }

    private static int[] numbersOf(EscrowCounter x) {
        int n = x.sites();
        int[] all = new int[4 + n * (5 + 2 * n) + 3 * x.loans()];
        int at = 0;
        all[at++] = x.time();
        all[at++] = x.value();
        all[at++] = x.loans();
        all[at++] = x.messages();
        for (int s = 0; s < n; s++) {
            for (int kind = 0; kind < 2; kind++) {
                all[at++] = x.own(s, kind);
                all[at++] = x.available(s, kind);
            }
            all[at++] = x.known(s);
            for (int t = 0; t < n; t++) {
                all[at++] = x.version(s, t);
                all[at++] = x.copyTime(s, t);
            }
        }
        for (int loan = 0; loan < x.loans(); loan++) {
            for (int what = 5; what <= 7; what++) {
                all[at++] = x.loan(loan, what);
            }
        }
        return all;
    }
}
