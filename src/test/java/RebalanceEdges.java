/** Rebalancing in the description; promise 8. */
final class RebalanceEdges {
    private RebalanceEdges() {
    }

    static void all(Edges edges) {
        description(edges);
        edges.promise(8, "Lets a site rebalance its rights", check -> {
            EscrowCounter x = asked(10, 30);
            check.same("of kind 0 alone", x.rebalance(0, 0), 49);
            check.same("the other kind stays", x.own(0, 1), 50);
        });
        edges.promise(8, "Returns the number of rights that it has transferred", check -> {
            check.same("two shares", asked(1, 1).rebalance(0, 0), 50);
            check.same("one share", asked(0, 1).rebalance(0, 0), 50);
            check.same("the least", oneRight().rebalance(0, 0), 1);
        });
        edges.promise(8, "(if it is 0, nothing is changed)", check -> {
            check.idle("no demand at all", () -> new EscrowCounter(5), 0, x -> x.rebalance(0, 0));
            check.idle("no rights", Scenes::lively, 0, x -> x.rebalance(2, 0));
            check.idle("no demand of this kind", Scenes::lively, 0, x -> x.rebalance(0, 1));
            check.idle("all shares are less than 1", RebalanceEdges::twoAskForOneRight, 0, x -> x.rebalance(0, 0));
            check.idle("its own demand alone", RebalanceEdges::onlyOwnDemand, 0, x -> x.rebalance(0, 0));
        });
    }

    /** Site 0 has 50 rights up and knows the demands up of sites 1 and 2 of three. */
    private static EscrowCounter asked(int demand1, int demand2) {
        EscrowCounter x = new EscrowCounter(3);
        ask(x, 1, demand1);
        ask(x, 2, demand2);
        return x;
    }

    private static void ask(EscrowCounter x, int site, int demand) {
        if (demand > 0) {
            x.increase(site, demand);
        }
        Steps.tell(x, site, 0);
    }

    private static EscrowCounter oneRight() {
        EscrowCounter x = asked(0, 7);
        x.transfer(0, 0, 1, 49);
        return x;
    }

    private static EscrowCounter twoAskForOneRight() {
        EscrowCounter x = asked(7, 7);
        x.transfer(0, 0, 1, 49);
        return x;
    }

    private static EscrowCounter onlyOwnDemand() {
        EscrowCounter x = new EscrowCounter(3);
        x.increase(0, 51);
        return x;
    }

    private static void description(Edges edges) {
        edges.description("let d be the demands of this kind of all sites as the site knows them", check -> {
            EscrowCounter x = asked(10, 10);
            x.increase(2, 80);
            check.same("by the copies", x.rebalance(0, 0), 50);
            check.same("half of them to 1", gotBy(x, 1), 25);
            EscrowCounter unheard = new EscrowCounter(2);
            unheard.increase(1, 9);
            check.same("a demand that is not known", unheard.rebalance(0, 0), 0);
        });
        edges.description("D their sum", check -> {
            EscrowCounter x = asked(10, 30);
            x.increase(0, 60);
            check.same("its own demand of 10 too", x.rebalance(0, 0), 40);
            check.same("a fifth to 1", gotBy(x, 1), 10);
            check.same("three fifths to 2", gotBy(x, 2), 30);
            check.same("a fifth stays", x.own(0, 0), 10);
        });
        edges.description("r its own rights of this kind, as they are before", check -> {
            EscrowCounter x = asked(1, 1);
            x.rebalance(0, 0);
            check.same("half to 1", gotBy(x, 1), 25);
            check.same("and half of what was there before to 2", gotBy(x, 2), 25);
            EscrowCounter lender = asked(1, 1);
            lender.lend(0, 0, 1, 20, 5);
            check.same("what is lent is not its own", lender.rebalance(0, 0), 30);
        });
        edges.description("Nothing is done if D is 0", check -> {
            for (int kind = 0; kind < 2; kind++) {
                int k = kind;
                check.idle("a new object", () -> new EscrowCounter(2), 0, x -> x.rebalance(0, k));
                check.idle("without rights", () -> new EscrowCounter(2), 0, x -> x.rebalance(1, k));
            }
        });
        shares(edges);
    }

    private static void shares(Edges edges) {
        edges.description("it transfers to each other site j", check -> {
            EscrowCounter x = new EscrowCounter(5);
            for (int site = 1; site < 5; site++) {
                ask(x, site, site);
            }
            check.same("all four", x.rebalance(0, 0), 50);
            for (int site = 1; site < 5; site++) {
                check.same("to " + site, gotBy(x, site), 5 * site);
            }
            check.same("back from the last to the first of all", backToTheFirst(), 20);
        });
        edges.description("r * d(j) / D rights, rounded down", check -> {
            EscrowCounter x = asked(1, 2);
            check.same("16 and 33", x.rebalance(0, 0), 49);
            check.same("50 / 3", gotBy(x, 1), 16);
            check.same("100 / 3", gotBy(x, 2), 33);
            check.same("what is left", x.own(0, 0), 1);
        });
        edges.description("if that is greater than 0", check -> {
            EscrowCounter x = asked(1, 50);
            check.same("50 / 51 and 2500 / 51", x.rebalance(0, 0), 49);
            check.same("no transfer of 0", x.version(0, 0), 1);
            EscrowCounter one = asked(1, 49);
            check.same("50 / 50 and 2450 / 50", one.rebalance(0, 0), 50);
            check.same("a transfer of 1", gotBy(one, 1), 1);
        });
        edges.description("(it can be more than 999)", check -> {
            EscrowCounter x = new EscrowCounter(2);
            x.begin(-10000, 10000, -10000);
            for (int i = 0; i < 101; i++) {
                x.increase(1, 999);
            }
            Steps.tell(x, 1, 0);
            check.same("20000 * 100000 / 100000", x.rebalance(0, 0), 20000);
            check.same("at the other site", gotBy(x, 1), 20000);
            EscrowCounter thousand = new EscrowCounter(2);
            thousand.begin(0, 1000, 0);
            ask(thousand, 1, 1);
            check.same("just more than 999", thousand.rebalance(0, 0), 1000);
        });
        edges.description("each of these transfers is a change of its record", check -> {
            EscrowCounter x = asked(1, 1);
            x.rebalance(0, 0);
            check.same("two transfers", x.version(0, 0), 2);
            EscrowCounter one = asked(0, 1);
            one.rebalance(0, 0);
            check.same("one transfer", one.version(0, 0), 1);
        });
    }

    private static int gotBy(EscrowCounter x, int site) {
        Steps.tell(x, 0, site);
        return x.own(site, 0);
    }

    private static int backToTheFirst() {
        EscrowCounter x = new EscrowCounter(5);
        x.transfer(0, 0, 4, 20);
        x.increase(0, 31);
        Steps.tell(x, 0, 4);
        return x.rebalance(4, 0);
    }
}
