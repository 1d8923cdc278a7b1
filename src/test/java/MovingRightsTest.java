/** Promises 6, 7 and 8: transfer, lend, rebalance. */
final class MovingRightsTest {
    private static final Check CHECK = new Check("MovingRightsTest");

    public static void main(String[] args) {
        transfers();
        transfersNeedOwnRights();
        wrongTransfers();
        lending();
        tenLoans();
        wrongLoans();
        rebalancing();
        rebalancingRoundsDown();
        rebalancingOfManyRights();
        rebalancingByStaleDemands();
        rebalancingOfOneRight();
        nothingToRebalance();
        wrongRebalancing();
        CHECK.end();
    }

    private static void transfers() {
        EscrowCounter x = new EscrowCounter(3);
        CHECK.same("own rights left", x.transfer(0, 0, 1, 20), 30);
        CHECK.same("of the other kind", x.transfer(1, 0, 2, 1), 49);
        CHECK.same("all that are left", x.transfer(0, 0, 2, 30), 0);
        CHECK.same("version", x.version(0, 0), 3);
        CHECK.same("not yet known", x.own(1, 0), 0);
        CHECK.same("they are dormant", x.dormant(0), 50);
        Steps.tell(x, 0, 1);
        CHECK.same("known by the message", x.own(1, 0), 20);
        CHECK.same("a transfer to another site gives nothing", x.own(1, 1), 0);
        CHECK.same("onwards", x.transfer(0, 1, 2, 15), 5);
        CHECK.same("and back", x.transfer(0, 1, 0, 5), 0);
        Steps.tell(x, 1, 2);
        CHECK.same("news of both by one message", x.own(2, 0), 45);
        Steps.tell(x, 1, 0);
        CHECK.same("back at the first site", x.own(0, 0), 5);
        x.begin(-10000, 10000, 0);
        CHECK.same("the greatest amount", x.transfer(1, 0, 1, 999), 9001);
    }

    private static void transfersNeedOwnRights() {
        EscrowCounter x = new EscrowCounter(2);
        x.lend(0, 0, 1, 10, 100);
        Steps.tell(x, 0, 1);
        CHECK.same("available by a loan", x.available(1, 0), 10);
        CHECK.badState("a loan cannot be transferred", x, () -> x.transfer(0, 1, 0, 1));
        CHECK.badState("nor be lent", x, () -> x.lend(0, 1, 0, 1, 1));
        CHECK.badState("one too many", x, () -> x.transfer(0, 0, 1, 41));
        CHECK.same("just enough", x.transfer(0, 0, 1, 40), 0);
    }

    private static void wrongTransfers() {
        EscrowCounter x = new EscrowCounter(3);
        CHECK.noSuch("kind -1", x, () -> x.transfer(-1, 0, 1, 1));
        CHECK.noSuch("kind 2", x, () -> x.transfer(2, 0, 1, 1));
        CHECK.noSuch("from -1", x, () -> x.transfer(0, -1, 1, 1));
        CHECK.noSuch("from 3", x, () -> x.transfer(0, 3, 1, 1));
        CHECK.noSuch("to -1", x, () -> x.transfer(0, 0, -1, 1));
        CHECK.noSuch("to 3", x, () -> x.transfer(0, 0, 3, 1));
        CHECK.noSuch("a missing site is listed first", x, () -> x.transfer(0, 3, 3, 0));
        CHECK.noSuch("a missing kind is listed first", x, () -> x.transfer(2, 1, 1, 1000));
        CHECK.badArgument("to itself", x, () -> x.transfer(0, 0, 0, 1));
        CHECK.badArgument("to itself without rights", x, () -> x.transfer(0, 1, 1, 1));
        CHECK.badArgument("amount 0", x, () -> x.transfer(0, 0, 1, 0));
        CHECK.badArgument("amount -1", x, () -> x.transfer(0, 0, 1, -1));
        CHECK.badArgument("amount 1000", x, () -> x.transfer(0, 1, 0, 1000));
        CHECK.badState("without rights", x, () -> x.transfer(1, 1, 0, 1));
        CHECK.badState("more than the rights", x, () -> x.transfer(1, 0, 1, 51));
        CHECK.fails("no state was kept", IllegalStateException.class, x::undo);
    }

    private static void lending() {
        EscrowCounter x = new EscrowCounter(3);
        x.pass(7);
        CHECK.same("the first loan", x.lend(1, 0, 2, 12, 1000), 0);
        CHECK.same("its lender", x.loan(0, 0), 0);
        CHECK.same("its borrower", x.loan(0, 1), 2);
        CHECK.same("its kind", x.loan(0, 2), 1);
        CHECK.same("its amount", x.loan(0, 3), 12);
        CHECK.same("its end", x.loan(0, 4), 1007);
        CHECK.same("version of the lender", x.version(0, 0), 1);
        CHECK.same("version of the borrower", x.version(2, 2), 0);
        CHECK.same("own rights of the lender", x.own(0, 1), 38);
        CHECK.same("the other kind", x.own(0, 0), 50);
        CHECK.same("the second loan", x.lend(0, 0, 1, 50, 1), 1);
        CHECK.same("all own rights are lent", x.own(0, 0), 0);
        CHECK.same("two loans", x.loans(), 2);
        x.begin(-10000, 10000, 0);
        CHECK.same("the greatest amount", x.lend(0, 0, 1, 999, 1), 0);
        CHECK.same("is lent", x.own(0, 0), 9001);
    }

    private static void tenLoans() {
        EscrowCounter x = new EscrowCounter(2);
        for (int i = 0; i < 10; i++) {
            CHECK.same("loan " + i, x.lend(i % 2, 0, 1, 1, 1), i);
        }
        CHECK.badState("an eleventh loan", x, () -> x.lend(0, 0, 1, 1, 1));
        CHECK.badArgument("a bad duration is listed first", x, () -> x.lend(0, 0, 1, 1, 0));
        x.pass(1);
        Steps.tell(x, 1, 0);
        CHECK.same("it has come back", x.loan(9, 7), 1);
        CHECK.badState("but is still a loan", x, () -> x.lend(0, 0, 1, 1, 1));
        CHECK.same("undo of deliver", x.undo(), 4);
        x.undo();
        x.undo();
        x.undo();
        CHECK.same("undo of the tenth loan", x.loans(), 9);
        CHECK.same("another tenth loan", x.lend(0, 0, 1, 2, 3), 9);
    }

    private static void wrongLoans() {
        EscrowCounter x = new EscrowCounter(2);
        CHECK.noSuch("kind -1", x, () -> x.lend(-1, 0, 1, 1, 1));
        CHECK.noSuch("kind 2", x, () -> x.lend(2, 0, 1, 1, 1));
        CHECK.noSuch("lender -1", x, () -> x.lend(0, -1, 1, 1, 1));
        CHECK.noSuch("lender 2", x, () -> x.lend(0, 2, 1, 1, 1));
        CHECK.noSuch("borrower -1", x, () -> x.lend(0, 0, -1, 1, 1));
        CHECK.noSuch("borrower 2", x, () -> x.lend(0, 0, 2, 1, 1));
        CHECK.noSuch("a missing site is listed first", x, () -> x.lend(0, 2, 2, 0, 0));
        CHECK.badArgument("to itself", x, () -> x.lend(0, 0, 0, 1, 1));
        CHECK.badArgument("amount 0", x, () -> x.lend(0, 0, 1, 0, 1));
        CHECK.badArgument("amount 1000", x, () -> x.lend(0, 0, 1, 1000, 1));
        CHECK.badArgument("duration 0", x, () -> x.lend(0, 0, 1, 1, 0));
        CHECK.badArgument("duration 1001", x, () -> x.lend(0, 0, 1, 1, 1001));
        CHECK.badArgument("duration before the missing rights", x, () -> x.lend(0, 1, 0, 1, 1001));
        CHECK.badState("without rights", x, () -> x.lend(0, 1, 0, 1, 1));
        CHECK.badState("more than the rights", x, () -> x.lend(0, 0, 1, 51, 1));
        CHECK.fails("no state was kept", IllegalStateException.class, x::undo);
    }

    private static void rebalancing() {
        EscrowCounter x = new EscrowCounter(4);
        x.increase(1, 10);
        x.increase(3, 30);
        x.increase(0, 60);
        Steps.tell(x, 1, 0);
        Steps.tell(x, 3, 0);
        CHECK.same("50 rights by demands of 10, 10, 0 and 30", x.rebalance(0, 0), 40);
        CHECK.same("own demand keeps its part", x.own(0, 0), 10);
        CHECK.same("each transfer is a change", x.version(0, 0), 3);
        CHECK.same("the other kind stays", x.own(0, 1), 50);
        Steps.tell(x, 0, 1);
        Steps.tell(x, 0, 2);
        Steps.tell(x, 0, 3);
        CHECK.same("a fifth", x.own(1, 0), 10);
        CHECK.same("nothing", x.own(2, 0), 0);
        CHECK.same("three fifths", x.own(3, 0), 30);
        CHECK.same("demands stay", x.demand(0, 3, 0), 30);
    }

    private static void rebalancingRoundsDown() {
        EscrowCounter x = new EscrowCounter(4);
        x.begin(0, 100, 10);
        x.decrease(1, 1);
        x.decrease(2, 1);
        x.decrease(3, 1);
        for (int site = 1; site < 4; site++) {
            Steps.tell(x, site, 0);
        }
        CHECK.same("three thirds of 10, rounded down", x.rebalance(0, 1), 9);
        CHECK.same("the rest stays", x.own(0, 1), 1);
        CHECK.same("shares of 1 by 3 are nothing", x.rebalance(0, 1), 0);
        CHECK.same("all shares are of the rights before", x.version(0, 0), 3);
    }

    private static void rebalancingOfManyRights() {
        EscrowCounter x = new EscrowCounter(2);
        x.begin(-10000, 10000, -10000);
        for (int i = 0; i < 101; i++) {
            x.increase(1, 999);
        }
        Steps.tell(x, 1, 0);
        CHECK.same("more than 999 at once", x.rebalance(0, 0), 20000);
        CHECK.same("in one transfer", x.version(0, 0), 1);
        Steps.tell(x, 0, 1);
        CHECK.same("all of them", x.own(1, 0), 20000);
    }

    private static void rebalancingByStaleDemands() {
        EscrowCounter x = new EscrowCounter(2);
        x.increase(1, 5);
        CHECK.same("a demand that is not known", x.rebalance(0, 0), 0);
        Steps.tell(x, 1, 0);
        x.lend(0, 0, 1, 20, 5);
        CHECK.same("a known one, own rights only", x.rebalance(0, 0), 30);
        Steps.tell(x, 0, 1);
        CHECK.same("a borrower has own rights", x.own(1, 0), 30);
        CHECK.same("its own demand takes all", x.rebalance(1, 0), 0);
    }

    private static void rebalancingOfOneRight() {
        EscrowCounter x = new EscrowCounter(3);
        x.transfer(1, 0, 2, 1);
        Steps.tell(x, 0, 2);
        x.decrease(0, 49);
        CHECK.same("refused at the first site", x.decrease(0, 3), false);
        Steps.tell(x, 0, 2);
        CHECK.same("a share of 1, to the first site", x.rebalance(2, 1), 1);
        CHECK.same("none is left", x.own(2, 1), 0);
        Steps.tell(x, 2, 0);
        CHECK.same("the first site has it", x.own(0, 1), 1);
        x.undo();
        x.undo();
        CHECK.same("undo of the rebalancing", x.undo(), 2);
        CHECK.same("it is back", x.own(2, 1), 1);
        CHECK.same("the message before it is still delivered", x.demand(2, 0, 1), 3);
    }

    private static void nothingToRebalance() {
        EscrowCounter x = new EscrowCounter(2);
        CHECK.same("no demand", x.rebalance(0, 0), 0);
        x.increase(1, 1);
        Steps.tell(x, 1, 0);
        String before = Picture.of(x);
        CHECK.same("no demand of this kind", x.rebalance(0, 1), 0);
        CHECK.same("no rights", x.rebalance(1, 0), 0);
        CHECK.same("nothing is changed", Picture.of(x), before);
        CHECK.same("no state is kept", Steps.statesOf(x), 3);
        CHECK.same("a rebalancing keeps one state", statesOfARebalancing(), 4);
    }

    private static int statesOfARebalancing() {
        EscrowCounter x = new EscrowCounter(3);
        x.increase(1, 1);
        Steps.tell(x, 1, 0);
        x.rebalance(0, 0);
        return Steps.statesOf(x);
    }

    private static void wrongRebalancing() {
        EscrowCounter x = new EscrowCounter(2);
        CHECK.noSuch("site -1", x, () -> x.rebalance(-1, 0));
        CHECK.noSuch("site 2", x, () -> x.rebalance(2, 0));
        CHECK.noSuch("kind -1", x, () -> x.rebalance(0, -1));
        CHECK.noSuch("kind 2", x, () -> x.rebalance(0, 2));
    }
}
