/** Changing in the description; promises 4, 5 and 9. */
final class ChangeEdges {
    private ChangeEdges() {
    }

    static void all(Edges edges) {
        enoughRights(edges);
        orderOfLoans(edges);
        refusals(edges);
        demands(edges);
        changes(edges);
        passing(edges);
    }

    private static void enoughRights(Edges edges) {
        edges.description("A site can increase the counter by an amount if it has as many available rights of kind 0",
                check -> {
                    check.same("just as many, own and borrowed", rich(0).increase(1, 13), true);
                    check.same("one too many", rich(0).increase(1, 14), false);
                    check.same("of the other kind it has none", rich(1).increase(1, 1), false);
                });
        edges.description("decrease it by an amount if it has as many available rights of kind 1", check -> {
            check.same("just as many, own and borrowed", rich(1).decrease(1, 13), true);
            check.same("one too many", rich(1).decrease(1, 14), false);
            check.same("of the other kind it has none", rich(0).decrease(1, 1), false);
        });
    }

    /** Site 1 has 3 own rights of the kind and knows loans of 4 until time 8 and of 6 until time 7. */
    private static EscrowCounter rich(int kind) {
        EscrowCounter x = new EscrowCounter(3);
        x.transfer(kind, 0, 1, 3);
        x.lend(kind, 0, 1, 4, 8);
        x.lend(kind, 0, 1, 6, 7);
        Steps.tell(x, 0, 1);
        return x;
    }

    private static void orderOfLoans(Edges edges) {
        edges.description("It uses the rests of the known loans of this kind first", check -> {
            EscrowCounter x = rich(0);
            x.lend(0, 0, 1, 5, 1);
            x.lend(1, 0, 1, 5, 1);
            x.increase(1, 10);
            check.same("own rights stay", x.own(1, 0), 3);
            check.same("the loan that is not known stays", x.loan(2, 5), 0);
            check.same("the loan of the other kind stays", x.loan(3, 5), 0);
            EscrowCounter late = rich(0);
            late.pass(7);
            late.increase(1, 5);
            check.same("a loan that is over has no rest", late.loan(1, 5), 0);
            check.same("the other one has", late.loan(0, 5), 4);
            check.same("own rights then", late.own(1, 0), 2);
        });
        edges.description("the loan with the smallest end first", check -> {
            check.same("the least change", usedOf(rich(0), 1), "0 1");
            check.same("all of the first to end", usedOf(rich(0), 6), "0 6");
            check.same("one more", usedOf(rich(0), 7), "1 6");
            check.same("all of both", usedOf(rich(0), 10), "4 6");
        });
        edges.description("of several the one with the smallest number", check -> {
            EscrowCounter x = new EscrowCounter(2);
            x.lend(0, 0, 1, 4, 5);
            x.pass(2);
            x.lend(0, 0, 1, 4, 3);
            Steps.tell(x, 0, 1);
            check.same("both end at 5", usedOf(x, 4), "4 0");
            check.same("then the next", usedOf(x, 1), "4 1");
        });
        edges.description("what remains needs own rights", check -> {
            EscrowCounter x = rich(0);
            check.same("one own right", x.increase(1, 11), true);
            check.same("own rights", x.own(1, 0), 2);
            check.same("rests", x.loan(0, 6) + x.loan(1, 6), 0);
            check.same("the own rights that are left", x.increase(1, 2), true);
            check.same("nothing is left", x.increase(1, 1), false);
        });
    }

    private static String usedOf(EscrowCounter x, int amount) {
        x.increase(1, amount);
        return x.loan(0, 5) + " " + x.loan(1, 5);
    }

    private static void refusals(Edges edges) {
        edges.description("If it has not enough available rights, the change is refused", check -> {
            EscrowCounter x = rich(0);
            check.same("answer", x.increase(1, 14), false);
            check.same("value", x.value(), 50);
            check.same("own rights", x.own(1, 0), 3);
            check.same("own rights of the other kind", x.own(1, 1), 0);
            check.same("used of loans", x.loan(0, 5) + x.loan(1, 5), 0);
            check.same("known", x.known(1), 50);
        });
        edges.description("its demand of this kind grows by the amount that is missing", check -> {
            EscrowCounter x = rich(0);
            x.increase(1, 14);
            check.same("the least that can be missing", x.demand(1, 1, 0), 1);
            x.increase(1, 999);
            check.same("much more", x.demand(1, 1, 0), 987);
            check.same("of the other kind", x.demand(1, 1, 1), 0);
            x.decrease(1, 999);
            check.same("all is missing", x.demand(1, 1, 1), 999);
            check.same("no other site's demand", x.demand(0, 0, 0) + x.demand(2, 2, 1), 0);
            check.same("nor known there", x.demand(0, 1, 1), 0);
        });
    }

    private static void demands(Edges edges) {
        edges.description("but at most to 100000", check -> {
            for (int kind = 0; kind < 2; kind++) {
                check.same("one under it", demandAfter(kind, 99), 99999);
                check.same("just so much", demandAfter(kind, 100), 100000);
                check.same("one more", demandAfter(kind, 101), 100000);
                check.same("much more", demandAfter(kind, 999), 100000);
            }
            EscrowCounter x = demanding(0, 100);
            x.increase(1, 1);
            check.same("once there it stays", x.demand(1, 1, 0), 100000);
            check.same("the other kind has a limit of its own", x.demand(1, 1, 1), 0);
        });
        edges.description("this is a change of its record in any case", check -> {
            EscrowCounter x = demanding(0, 100);
            check.same("version at the limit", x.version(1, 1), 101);
            x.increase(1, 999);
            check.same("version one more", x.version(1, 1), 102);
            check.same("a message brings it", Steps.tell(x, 1, 0), 1);
            x.increase(1, 999);
            check.same("and once more", Steps.tell(x, 1, 0), 1);
        });
        edges.description("a demand never falls", check -> {
            EscrowCounter x = new EscrowCounter(2);
            x.increase(1, 5);
            x.transfer(0, 0, 1, 20);
            Steps.tell(x, 0, 1);
            check.same("rights that come", x.demand(1, 1, 0), 5);
            x.increase(1, 20);
            x.decrease(1, 20);
            check.same("changes that are done", x.demand(1, 1, 0), 5);
            x.transfer(0, 1, 0, 20);
            x.pass(1000);
            check.same("transfers and time", x.demand(1, 1, 0), 5);
            x.increase(0, 31);
            Steps.tell(x, 1, 0);
            check.same("rights that are given", x.rebalance(0, 0) > 0, true);
            check.same("the demand known there", x.demand(0, 1, 0), 5);
        });
    }

    /** Site 1 without rights has asked for 99900, then for some more. */
    private static EscrowCounter demanding(int kind, int more) {
        EscrowCounter x = new EscrowCounter(2);
        for (int i = 0; i < 100; i++) {
            change(x, kind, 1, 999);
        }
        change(x, kind, 1, more);
        return x;
    }

    private static int demandAfter(int kind, int more) {
        return demanding(kind, more).demand(1, 1, kind);
    }

    private static boolean change(EscrowCounter x, int kind, int site, int amount) {
        return kind == 0 ? x.increase(site, amount) : x.decrease(site, amount);
    }

    private static void changes(Edges edges) {
        for (int each = 0; each < 2; each++) {
            int kind = each;
            edges.promise(4 + kind, kind == 0 ? "Lets a site increase the counter" : "Lets a site decrease the counter",
                    check -> {
                        int sign = kind == 0 ? 1 : -1;
                        EscrowCounter x = new EscrowCounter(2);
                        check.same("the least amount", change(x, kind, 0, 1), true);
                        check.same("value then", x.value(), 50 + sign);
                        check.same("up to the bound", change(x, kind, 0, 49), true);
                        check.same("value at the bound", x.value(), 50 + 50 * sign);
                        x.begin(-10000, 10000, 0);
                        check.same("the greatest amount", change(x, kind, 0, 999), true);
                        check.same("value of it", x.value(), 999 * sign);
                    });
            edges.promise(4 + kind, "Returns true if it is done; false if it is refused", check -> {
                check.same("as many as there are", change(new EscrowCounter(2), kind, 0, 50), true);
                check.same("one more", change(new EscrowCounter(2), kind, 0, 51), false);
                check.same("without rights", change(new EscrowCounter(2), kind, 1, 1), false);
                check.same("the greatest amount", change(new EscrowCounter(2), kind, 0, 999), false);
            });
        }
    }

    private static void passing(Edges edges) {
        edges.promise(9, "Lets time pass", check -> {
            EscrowCounter x = Scenes.lively();
            x.pass(6);
            check.same("time", x.time(), 8);
            check.same("a loan lives on", x.available(2, 0), 6);
            x.pass(1);
            check.same("and ends", x.available(2, 0), 0);
            check.same("messages stay", x.messages(), 2);
        });
        edges.promise(9, "Returns the time then", check -> {
            EscrowCounter x = new EscrowCounter(2);
            check.same("the least amount", x.pass(1), 1);
            check.same("the greatest amount", x.pass(1000), 1001);
        });
        edges.promise(9, "if the time would become greater than 1000000", check -> {
            check.same("just to it", Scenes.atTime(999999).pass(1), 1000000);
            check.same("just to it by much", Scenes.atTime(999000).pass(1000), 1000000);
            check.vain("one beyond it", () -> Scenes.atTime(1000000), IllegalStateException.class, x -> x.pass(1));
            check.vain("one beyond it by much", () -> Scenes.atTime(999001), IllegalStateException.class,
                    x -> x.pass(1000));
            check.same("nor in a script", Steps.run(Scenes.atTime(1000000), "t1"), -1000);
            check.same("just to it in a script", Steps.run(Scenes.atTime(999999), "t1"), 1);
        });
    }
}
