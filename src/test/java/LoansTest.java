/** Promises 25 and 26: loans, loan. */
final class LoansTest {
    private static final Check CHECK = new Check("LoansTest");

    public static void main(String[] args) {
        factsOfALoan();
        comingBack();
        comingBackByAThirdSite();
        knownByAThirdSite();
        aRefundIsByTheCopy();
        wrongInputs();
        CHECK.end();
    }

    private static void factsOfALoan() {
        EscrowCounter x = new EscrowCounter(3);
        CHECK.same("no loans", x.loans(), 0);
        x.pass(2);
        x.lend(1, 0, 2, 9, 4);
        CHECK.same("one loan", x.loans(), 1);
        CHECK.same("facts", facts(x, 0), "0 2 1 9 6 0 0 0");
        Steps.tell(x, 0, 2);
        CHECK.same("facts when it is known", facts(x, 0), "0 2 1 9 6 0 9 0");
        x.decrease(2, 4);
        CHECK.same("facts when it is used", facts(x, 0), "0 2 1 9 6 4 5 0");
        x.pass(3);
        CHECK.same("facts before its end", facts(x, 0), "0 2 1 9 6 4 5 0");
        x.pass(1);
        CHECK.same("facts at its end", facts(x, 0), "0 2 1 9 6 4 0 0");
        Steps.tell(x, 2, 0);
        CHECK.same("facts when it has come back", facts(x, 0), "0 2 1 9 6 4 0 1");
        CHECK.same("it is still a loan", x.loans(), 1);
        CHECK.same("a second one", x.lend(0, 0, 1, 3, 7), 1);
        CHECK.same("its facts", facts(x, 1), "0 1 0 3 13 0 0 0");
        CHECK.same("two loans", x.loans(), 2);
    }

    private static void comingBack() {
        EscrowCounter x = new EscrowCounter(2);
        x.lend(0, 0, 1, 10, 5);
        x.pass(4);
        x.send(1, 0);
        x.pass(1);
        x.send(1, 0);
        x.deliver(0);
        CHECK.same("a copy from before the end", x.loan(0, 7), 0);
        CHECK.same("own then", x.own(0, 0), 40);
        x.deliver(0);
        CHECK.same("a copy from the end", x.loan(0, 7), 1);
        CHECK.same("own then", x.own(0, 0), 50);
        CHECK.same("it can be used again", x.increase(0, 50), true);
        CHECK.same("the borrower learns of it too late", Steps.tell(x, 0, 1), 1);
        CHECK.same("and cannot use it", x.increase(1, 1), false);
    }

    private static void comingBackByAThirdSite() {
        EscrowCounter x = new EscrowCounter(3);
        x.lend(0, 0, 1, 10, 5);
        x.pass(5);
        Steps.tell(x, 1, 2);
        x.pass(3);
        CHECK.same("the lender has not heard", x.loan(0, 7), 0);
        Steps.tell(x, 2, 0);
        CHECK.same("the lender has heard", x.loan(0, 7), 1);
    }

    private static void knownByAThirdSite() {
        EscrowCounter x = new EscrowCounter(3);
        x.lend(1, 0, 1, 10, 5);
        Steps.tell(x, 0, 2);
        CHECK.same("a third site knows it", x.loan(0, 6), 0);
        CHECK.same("but has nothing of it", x.available(2, 1), 0);
        Steps.tell(x, 2, 1);
        CHECK.same("the borrower knows it", x.loan(0, 6), 10);
        x.lend(1, 0, 1, 10, 5);
        CHECK.same("a later loan is not known", x.loan(1, 6), 0);
        CHECK.same("available", x.available(1, 1), 10);
    }

    private static void aRefundIsByTheCopy() {
        EscrowCounter x = new EscrowCounter(2);
        x.lend(0, 0, 1, 10, 5);
        x.lend(0, 0, 1, 10, 9);
        Steps.tell(x, 0, 1);
        x.increase(1, 13);
        CHECK.same("first loan", facts(x, 0), "0 1 0 10 5 10 0 0");
        CHECK.same("second loan", facts(x, 1), "0 1 0 10 9 3 7 0");
        x.pass(5);
        Steps.tell(x, 1, 0);
        CHECK.same("nothing comes back of the first", x.own(0, 0), 30);
        x.increase(1, 2);
        x.pass(4);
        CHECK.same("not yet of the second", x.own(0, 0), 30);
        Steps.tell(x, 1, 0);
        CHECK.same("5 come back of the second", x.own(0, 0), 35);
        CHECK.same("all is somewhere", x.dormant(0), 0);
    }

    private static void wrongInputs() {
        EscrowCounter x = new EscrowCounter(2);
        CHECK.noSuch("no loans at all", x, () -> x.loan(0, 0));
        x.lend(0, 0, 1, 10, 5);
        CHECK.noSuch("loan -1", x, () -> x.loan(-1, 0));
        CHECK.noSuch("loan 1", x, () -> x.loan(1, 0));
        CHECK.noSuch("what -1", x, () -> x.loan(0, -1));
        CHECK.noSuch("what 8", x, () -> x.loan(0, 8));
        CHECK.noSuch("extreme values", x, () -> x.loan(Integer.MAX_VALUE, Integer.MIN_VALUE));
    }

    private static String facts(EscrowCounter x, int loan) {
        StringBuilder all = new StringBuilder();
        for (int what = 0; what < 8; what++) {
            all.append(what == 0 ? "" : " ").append(x.loan(loan, what));
        }
        return all.toString();
    }
}
