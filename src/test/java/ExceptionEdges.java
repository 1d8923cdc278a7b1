import java.util.function.Supplier;
import java.util.function.ToLongFunction;

/** Exceptions in the description: which one comes first, for every way to put faults together. */
final class ExceptionEdges {
    private static final int[] SITES = {-1, 0, 1, 2, 3};
    private static final int[] KINDS = {-1, 0, 1, 2};
    private static final int[] AMOUNTS = {0, 1, 40, 41, 50, 51, 999, 1000};

    private static final String FIRST = "If several exceptions apply to a call, the one that is listed first is thrown";

    private ExceptionEdges() {
    }

    static void all(Edges edges) {
        edges.description("A call that throws an exception changes nothing", ExceptionEdges::nothingChanges);
        edges.description(FIRST, ExceptionEdges::changes);
        edges.description(FIRST, ExceptionEdges::transfers);
        edges.description(FIRST, ExceptionEdges::loans);
        edges.description(FIRST, ExceptionEdges::messages);
        edges.description(FIRST, ExceptionEdges::others);
    }

    private static void nothingChanges(Check check) {
        Supplier<EscrowCounter> full = Scenes::full;
        Supplier<EscrowCounter> empty = () -> new EscrowCounter(2);
        check.vain("begin", full, IllegalArgumentException.class, x -> x.begin(0, 10, 11));
        check.vain("lend", full, IllegalStateException.class, x -> x.lend(0, 0, 1, 1, 1));
        check.vain("send", full, IllegalStateException.class, x -> x.send(0, 1));
        check.vain("repeat", full, IllegalStateException.class, x -> x.repeat(0));
        check.vain("type", full, IllegalStateException.class, x -> x.type('t'));
        check.vain("undo", empty, IllegalStateException.class, EscrowCounter::undo);
        check.vain("deliver", empty, IndexOutOfBoundsException.class, x -> x.deliver(0));
        check.vain("transfer", empty, IllegalStateException.class, x -> x.transfer(0, 1, 0, 1));
    }

    private static void changes(Check check) {
        for (int site : SITES) {
            for (int amount : AMOUNTS) {
                int fault = firstOf(noSite(site), amount < 1 || amount > 999, false);
                compare(check, "increase " + site + " " + amount, fault, Scenes::lively,
                        x -> x.increase(site, amount) ? 1 : 0);
                compare(check, "decrease " + site + " " + amount, fault, Scenes::lively,
                        x -> x.decrease(site, amount) ? 1 : 0);
            }
        }
    }

    private static void transfers(Check check) {
        for (int kind : KINDS) {
            for (int from : SITES) {
                for (int to : SITES) {
                    for (int amount : AMOUNTS) {
                        int fault = firstOf(noKind(kind) || noSite(from) || noSite(to),
                                from == to || amount < 1 || amount > 999, amount > livelyRights(kind, from));
                        compare(check, "transfer " + kind + " " + from + " " + to + " " + amount, fault,
                                Scenes::lively, x -> x.transfer(kind, from, to, amount));
                    }
                }
            }
        }
    }

    private static void loans(Check check) {
        for (int kind : KINDS) {
            for (int from : SITES) {
                for (int to : SITES) {
                    for (int amount : AMOUNTS) {
                        for (int duration : new int[] {0, 1, 1000, 1001}) {
                            loan(check, new int[] {kind, from, to, amount, duration});
                        }
                    }
                }
            }
        }
    }

    private static void loan(Check check, int[] a) {
        boolean isMissing = noKind(a[0]) || noSite(a[1]) || noSite(a[2]);
        boolean isOutOfRange = a[1] == a[2] || a[3] < 1 || a[3] > 999 || a[4] < 1 || a[4] > 1000;
        String call = "lend " + a[0] + " " + a[1] + " " + a[2] + " " + a[3] + " " + a[4];
        compare(check, call, firstOf(isMissing, isOutOfRange, a[3] > livelyRights(a[0], a[1])), Scenes::lively,
                x -> x.lend(a[0], a[1], a[2], a[3], a[4]));
        compare(check, call + " with ten loans", firstOf(isMissing, isOutOfRange, true), Scenes::full,
                x -> x.lend(a[0], a[1], a[2], a[3], a[4]));
    }

    private static void messages(Check check) {
        for (int from : SITES) {
            for (int to : SITES) {
                boolean isMissing = noSite(from) || noSite(to);
                compare(check, "send " + from + " " + to, firstOf(isMissing, from == to, false), Scenes::lively,
                        x -> x.send(from, to));
                compare(check, "send " + from + " " + to + " with 8 under way", firstOf(isMissing, from == to, true),
                        Scenes::full, x -> x.send(from, to));
            }
        }
        for (int message : new int[] {-1, 0, 1, 2, 7, 8}) {
            compare(check, "repeat " + message, firstOf(message < 0 || message > 1, false, false), Scenes::lively,
                    x -> x.repeat(message));
            compare(check, "repeat " + message + " with 8 under way", firstOf(message < 0 || message > 7, false, true),
                    Scenes::full, x -> x.repeat(message));
        }
    }

    private static void others(Check check) {
        for (int site : SITES) {
            for (int kind : KINDS) {
                for (int amount : new int[] {-1, 0, 30000, 30001}) {
                    int fault = firstOf(noSite(site) || noKind(kind), amount < 0 || amount > 30000, false);
                    compare(check, "helpers " + site + " " + kind + " " + amount, fault, Scenes::lively,
                            x -> x.helpers(site, kind, amount));
                }
            }
        }
        for (int code : new int[] {31, 32, 126, 127}) {
            boolean isOutOfRange = code < 32 || code > 126;
            compare(check, "type " + code, firstOf(false, isOutOfRange, false), Scenes::lively, x -> x.type(code));
            compare(check, "type " + code + " with 60 there", firstOf(false, isOutOfRange, true), Scenes::full,
                    x -> x.type(code));
        }
        for (int amount : new int[] {0, 1, 1000, 1001}) {
            compare(check, "pass " + amount, firstOf(false, amount < 1 || amount > 1000, true),
                    () -> Scenes.atTime(1000000), x -> x.pass(amount));
        }
    }

    private static boolean noSite(int site) {
        return site < 0 || site > 2;
    }

    private static boolean noKind(int kind) {
        return kind < 0 || kind > 1;
    }

    /** In the lively scene only site 0 has own rights: 4 of kind 0 are given away and 6 are lent. */
    private static int livelyRights(int kind, int site) {
        return site != 0 ? 0 : kind == 0 ? 40 : 50;
    }

    private static int firstOf(boolean isMissing, boolean isOutOfRange, boolean isNotPossible) {
        return isMissing ? 1 : isOutOfRange ? 2 : isNotPossible ? 3 : 0;
    }

    private static void compare(Check check, String call, int fault, Supplier<EscrowCounter> scene,
            ToLongFunction<EscrowCounter> of) {
        String[] names = {"none", "IndexOutOfBoundsException", "IllegalArgumentException", "IllegalStateException"};
        String got = "none";
        try {
            of.applyAsLong(scene.get());
        } catch (RuntimeException e) {
            got = e.getClass().getSimpleName();
        }
        check.same(call, got, names[fault]);
    }
}
