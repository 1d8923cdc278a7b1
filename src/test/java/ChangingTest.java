/** Promises 4 and 5: increase, decrease. */
final class ChangingTest {
    private static final Check CHECK = new Check("ChangingTest");

    public static void main(String[] args) {
        changesByOwnRights();
        changesGiveRightsBack();
        refusedChanges();
        greatestDemand();
        loansFirst();
        loansOfOneRight();
        aLoanThatWasUndone();
        loansOfTheSameEnd();
        loansThatCannotBeUsed();
        wrongInputs();
        CHECK.end();
    }

    private static void changesByOwnRights() {
        EscrowCounter x = new EscrowCounter(2);
        CHECK.same("increase by all rights", x.increase(0, 50), true);
        CHECK.same("value at the high bound", x.value(), 100);
        CHECK.same("no rights left", x.own(0, 0), 0);
        CHECK.same("increase beyond the bound", x.increase(0, 1), false);
        CHECK.same("value stays", x.value(), 100);
        CHECK.same("decrease by all rights", x.decrease(0, 100), true);
        CHECK.same("value at the low bound", x.value(), 0);
        CHECK.same("decrease beyond the bound", x.decrease(0, 1), false);
        CHECK.same("version counts refused changes too", x.version(0, 0), 4);
        x.begin(-10000, 10000, 0);
        CHECK.same("the greatest amount up", x.increase(0, 999), true);
        CHECK.same("the greatest amount down", x.decrease(0, 999), true);
    }

    private static void changesGiveRightsBack() {
        EscrowCounter x = new EscrowCounter(2);
        x.increase(0, 20);
        CHECK.same("up after increase", x.own(0, 0), 30);
        CHECK.same("down after increase", x.own(0, 1), 70);
        x.decrease(0, 5);
        CHECK.same("up after decrease", x.own(0, 0), 35);
        CHECK.same("down after decrease", x.own(0, 1), 65);
    }

    private static void refusedChanges() {
        EscrowCounter x = new EscrowCounter(3);
        CHECK.same("refused up", x.increase(0, 53), false);
        CHECK.same("demand is what is missing", x.demand(0, 0, 0), 3);
        CHECK.same("the other kind has none", x.demand(0, 0, 1), 0);
        CHECK.same("refused up again", x.increase(0, 60), false);
        CHECK.same("demands add up", x.demand(0, 0, 0), 13);
        CHECK.same("refused down", x.decrease(1, 4), false);
        CHECK.same("demand down", x.demand(1, 1, 1), 4);
        CHECK.same("others do not know it", x.demand(0, 1, 1), 0);
        CHECK.same("a good change", x.increase(0, 50), true);
        CHECK.same("a demand never falls", x.demand(0, 0, 0), 13);
        CHECK.same("own rights stay", x.own(0, 1), 100);
        CHECK.same("versions", x.version(0, 0) * 10 + x.version(1, 1), 31);
    }

    private static void greatestDemand() {
        EscrowCounter x = new EscrowCounter(2);
        for (int i = 0; i < 100; i++) {
            x.increase(1, 999);
        }
        CHECK.same("demand under its limit", x.demand(1, 1, 0), 99900);
        x.increase(1, 99);
        CHECK.same("demand one under its limit", x.demand(1, 1, 0), 99999);
        x.increase(1, 2);
        CHECK.same("demand at its limit", x.demand(1, 1, 0), 100000);
        CHECK.same("a refused change at the limit", x.increase(1, 5), false);
        CHECK.same("demand stays", x.demand(1, 1, 0), 100000);
        CHECK.same("but the version grows", x.version(1, 1), 103);
        CHECK.same("and the history keeps a state", x.undo(), 4);
        CHECK.same("that is brought back", x.version(1, 1), 102);
    }

    private static void loansFirst() {
        EscrowCounter x = new EscrowCounter(3);
        x.transfer(0, 0, 2, 5);
        x.lend(0, 0, 2, 10, 30);
        x.lend(0, 0, 2, 6, 20);
        x.lend(1, 0, 2, 7, 10);
        Steps.tell(x, 0, 2);
        CHECK.same("own", x.own(2, 0), 5);
        CHECK.same("available", x.available(2, 0), 21);
        CHECK.same("increase", x.increase(2, 4), true);
        CHECK.same("the smallest end first", x.loan(1, 5), 4);
        CHECK.same("not the other", x.loan(0, 5), 0);
        CHECK.same("own stays", x.own(2, 0), 5);
        CHECK.same("one change, one version", x.version(2, 2), 1);
        CHECK.same("increase over several", x.increase(2, 9), true);
        CHECK.same("the first is used up", x.loan(1, 6), 0);
        CHECK.same("the second in part", x.loan(0, 6), 3);
        CHECK.same("increase over loans and own", x.increase(2, 6), true);
        CHECK.same("the rest of the second", x.loan(0, 6), 0);
        CHECK.same("own then", x.own(2, 0), 2);
        CHECK.same("the loan of the other kind", x.loan(2, 5), 0);
        CHECK.same("what was increased can be decreased", x.own(2, 1), 19);
        CHECK.same("decrease uses the loan down first", x.decrease(2, 8), true);
        CHECK.same("all of it", x.loan(2, 6), 0);
        CHECK.same("then own rights", x.own(2, 1), 18);
        CHECK.same("decreases give rights up", x.own(2, 0), 10);
        CHECK.same("too much", x.increase(2, 11), false);
        CHECK.same("by one", x.demand(2, 2, 0), 1);
    }

    private static void loansOfOneRight() {
        EscrowCounter x = new EscrowCounter(2);
        x.transfer(0, 0, 1, 2);
        x.lend(0, 0, 1, 1, 8);
        x.lend(0, 0, 1, 1, 9);
        Steps.tell(x, 0, 1);
        x.increase(1, 3);
        CHECK.same("a rest of 1 is used", x.loan(0, 5), 1);
        CHECK.same("and another one", x.loan(1, 5), 1);
        CHECK.same("then an own right", x.own(1, 0), 1);
    }

    private static void aLoanThatWasUndone() {
        EscrowCounter x = new EscrowCounter(2);
        x.lend(0, 0, 1, 9, 8);
        Steps.tell(x, 0, 1);
        x.lend(0, 0, 1, 9, 2);
        Steps.tell(x, 0, 1);
        for (int i = 0; i < 3; i++) {
            x.undo();
        }
        CHECK.same("only the first loan is there", x.available(1, 0), 9);
        x.increase(1, 4);
        CHECK.same("and is used", x.loan(0, 5), 4);
        CHECK.same("the number is free again", x.lend(1, 0, 1, 3, 3), 1);
        CHECK.same("for a loan that nobody knows", x.available(1, 1), 4);
    }

    private static void loansOfTheSameEnd() {
        EscrowCounter x = new EscrowCounter(3);
        x.transfer(0, 0, 1, 20);
        Steps.tell(x, 0, 1);
        x.lend(0, 1, 2, 5, 8);
        x.pass(3);
        x.lend(0, 0, 2, 5, 5);
        Steps.tell(x, 0, 2);
        CHECK.same("only one of them is known", x.available(2, 0), 5);
        Steps.tell(x, 1, 2);
        CHECK.same("both are known", x.available(2, 0), 10);
        x.increase(2, 6);
        CHECK.same("the smallest number first", x.loan(0, 5), 5);
        CHECK.same("then the next", x.loan(1, 5), 1);
    }

    private static void loansThatCannotBeUsed() {
        EscrowCounter x = new EscrowCounter(2);
        x.lend(0, 0, 1, 10, 2);
        CHECK.same("unknown loan", x.increase(1, 1), false);
        Steps.tell(x, 0, 1);
        x.pass(1);
        CHECK.same("before the end", x.increase(1, 3), true);
        x.pass(1);
        CHECK.same("at the end", x.increase(1, 1), false);
        CHECK.same("used", x.loan(0, 5), 3);
        CHECK.same("demand", x.demand(1, 1, 0), 2);
        CHECK.same("a lender does not use its loan", x.increase(0, 41), false);
    }

    private static void wrongInputs() {
        EscrowCounter x = new EscrowCounter(3);
        CHECK.noSuch("increase at -1", x, () -> x.increase(-1, 1) ? 1 : 0);
        CHECK.noSuch("increase at 3", x, () -> x.increase(3, 1) ? 1 : 0);
        CHECK.noSuch("increase: the site is listed first", x, () -> x.increase(3, 0) ? 1 : 0);
        CHECK.badArgument("increase by 0", x, () -> x.increase(0, 0) ? 1 : 0);
        CHECK.badArgument("increase by 1000", x, () -> x.increase(0, 1000) ? 1 : 0);
        CHECK.badArgument("increase by the least int", x, () -> x.increase(1, Integer.MIN_VALUE) ? 1 : 0);
        CHECK.noSuch("decrease at -1", x, () -> x.decrease(-1, 1) ? 1 : 0);
        CHECK.noSuch("decrease at 3", x, () -> x.decrease(3, 1) ? 1 : 0);
        CHECK.noSuch("decrease: the site is listed first", x, () -> x.decrease(Integer.MIN_VALUE, 1000) ? 1 : 0);
        CHECK.badArgument("decrease by 0", x, () -> x.decrease(0, 0) ? 1 : 0);
        CHECK.badArgument("decrease by 1000", x, () -> x.decrease(2, 1000) ? 1 : 0);
        CHECK.badArgument("decrease by the greatest int", x, () -> x.decrease(0, Integer.MAX_VALUE) ? 1 : 0);
        CHECK.fails("no state was kept", IllegalStateException.class, x::undo);
    }
}
