import java.util.Random;

/** The first section of the document, 'What it is'. */
final class WholeEdges {
    private static final int MOST_CALLS = 512;

    private WholeEdges() {
    }

    static void all(Edges edges) {
        counter(edges);
        messages(edges);
        rights(edges);
        edges.whole("An object is used for at most 512 calls after it has been made", WholeEdges::lastCalls);
    }

    private static void counter(Edges edges) {
        edges.whole("A counter that is kept at several sites and never leaves its bounds", check -> {
            for (int seed = 0; seed < 40; seed++) {
                check.same("calls that led beyond the bounds, run " + seed, callsBeyondBounds(seed), 0);
            }
        });
        edges.whole("sites have rights to increase and to decrease it, use them without asking anybody", check -> {
            EscrowCounter x = shared();
            check.same("an increase", x.increase(1, 30), true);
            check.same("a decrease", x.decrease(2, 30), true);
            check.same("both at once", x.increase(0, 20) && x.decrease(0, 20), true);
            check.same("no message was sent", x.messages(), 0);
            check.same("nobody has heard of anything", x.known(0) + x.known(1) + x.known(2), 50 + 80 + 20);
        });
        edges.whole("transfer and lend them", check -> {
            EscrowCounter x = shared();
            check.same("a transfer", x.transfer(0, 1, 2, 10), 20);
            check.same("a loan", x.lend(0, 1, 2, 20, 9), 0);
            check.same("what is left", x.own(1, 0), 0);
            Steps.tell(x, 1, 2);
            check.same("what has come", x.available(2, 0), 30);
        });
    }

    /** Site 1 has 30 of the 50 rights up and site 2 has 30 of the 50 rights down; no copy is older than another. */
    private static EscrowCounter shared() {
        EscrowCounter x = new EscrowCounter(3);
        x.transfer(0, 0, 1, 30);
        x.transfer(1, 0, 2, 30);
        Steps.tell(x, 0, 1);
        Steps.tell(x, 0, 2);
        return x;
    }

    /** Every site changes all it can, with messages in any order; half of the calls ask for the value. */
    private static int callsBeyondBounds(int seed) {
        Random random = new Random(seed);
        EscrowCounter x = new EscrowCounter(5);
        x.begin(-20, 20, 0);
        int beyond = 0;
        for (int calls = 1; calls + 2 <= MOST_CALLS; calls += 2) {
            anyCall(x, random);
            int value = x.value();
            beyond += value < -20 || value > 20 ? 1 : 0;
        }
        return beyond;
    }

    private static void anyCall(EscrowCounter x, Random random) {
        int site = random.nextInt(5);
        int other = random.nextInt(5);
        int kind = random.nextInt(2);
        int amount = 1 + random.nextInt(12);
        try {
            switch (random.nextInt(10)) {
                case 0 -> x.transfer(kind, site, other, amount);
                case 1 -> x.lend(kind, site, other, amount, 1 + random.nextInt(9));
                case 2 -> x.rebalance(site, kind);
                case 3 -> x.pass(1 + random.nextInt(3));
                case 4 -> x.send(site, other);
                case 5 -> x.deliver(random.nextInt(4));
                case 6 -> x.repeat(random.nextInt(4));
                case 7 -> x.decrease(site, amount);
                case 8 -> x.increase(site, amount);
                default -> x.undo();
            }
        } catch (IndexOutOfBoundsException | IllegalArgumentException | IllegalStateException e) {
            // What is not possible changes nothing: the next call comes.
        }
    }

    private static void messages(Edges edges) {
        edges.whole("learn from one another by messages that can be late, lost or repeated", check -> {
            check.same("in their order", learnt(0, 0, 0), "3 3 53");
            check.same("the second and the third late", learnt(2, 1, 0), "3 3 53");
            check.same("the first late", learnt(1, 1, 0), "3 3 53");
            check.same("the first and the second lost", learnt(2), "3 3 53");
            check.same("the last lost", learnt(1, 0), "2 2 52");
            check.same("all lost", learnt(), "0 0 50");
            EscrowCounter x = threeUnderWay();
            x.repeat(2);
            x.repeat(0);
            x.deliver(2);
            check.same("repeated", x.deliver(2) + x.deliver(2), 0);
            check.same("nothing counts twice", heard(x), "3 3 53");
        });
    }

    /** Three messages from site 0 to 1, at times 1 to 3, before each of which site 0 has increased by 1. */
    private static EscrowCounter threeUnderWay() {
        EscrowCounter x = new EscrowCounter(2);
        for (int i = 0; i < 3; i++) {
            x.increase(0, 1);
            x.pass(1);
            x.send(0, 1);
        }
        return x;
    }

    private static String learnt(int... delivered) {
        EscrowCounter x = threeUnderWay();
        for (int message : delivered) {
            x.deliver(message);
        }
        return heard(x);
    }

    private static String heard(EscrowCounter x) {
        return x.version(1, 0) + " " + x.copyTime(1, 0) + " " + x.known(1);
    }

    private static void rights(Edges edges) {
        edges.whole("Rights follow demand", check -> {
            EscrowCounter x = new EscrowCounter(2);
            check.same("refused", x.increase(1, 30), false);
            Steps.tell(x, 1, 0);
            check.same("rights for the demand", x.rebalance(0, 0), 50);
            Steps.tell(x, 0, 1);
            check.same("done now", x.increase(1, 30), true);
        });
        edges.whole("loans expire and come back", check -> {
            EscrowCounter x = new EscrowCounter(2);
            x.lend(0, 0, 1, 30, 3);
            Steps.tell(x, 0, 1);
            x.increase(1, 10);
            x.pass(3);
            check.same("it has expired", x.available(1, 0), 0);
            check.same("and is not back", x.own(0, 0), 20);
            Steps.tell(x, 1, 0);
            check.same("now it is", x.own(0, 0), 40);
        });
        edges.whole("scripts of commands are run as a whole or not at all", check -> {
            EscrowCounter x = new EscrowCounter(2);
            check.same("as a whole", Steps.run(x, "u0>1:9;m0>1;+1:9"), 3);
            check.same("value", x.value(), 59);
            String before = Picture.of(x);
            check.same("not at all", Steps.run(x, "u0>1:9;m0>1;+1:10;t1"), -1002);
            check.same("all is as it was", Picture.of(x), before);
        });
    }

    /** 501 calls, then some whose answers need what those before them have done; the last is the 512th. */
    private static void lastCalls(Check check) {
        EscrowCounter x = new EscrowCounter(5);
        x.begin(-10000, 10000, 0);
        for (int i = 1; i <= 250; i++) {
            check.same("message " + i, x.deliver(x.send(0, 1 + i % 4)), 0);
        }
        check.same("call 502", x.increase(0, 999), true);
        check.same("call 503", x.send(0, 4), 0);
        check.same("call 504", x.deliver(0), 1);
        check.same("call 505", x.known(4), 999);
        for (int left = 4; left >= 0; left--) {
            check.same("undo", x.undo(), left);
        }
        check.fails("call 511", IllegalStateException.class, x::undo);
        check.same("call 512", x.value(), 0);
    }
}
