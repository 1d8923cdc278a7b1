/** Promises 17 to 24: value, known, own, available, dormant, demand, version, copyTime. */
final class AskingTest {
    private static final Check CHECK = new Check("AskingTest");

    public static void main(String[] args) {
        values();
        rightsWithTransfersAndLoans();
        dormantRights();
        knowledge();
        wrongInputs();
        CHECK.end();
    }

    private static void values() {
        EscrowCounter x = new EscrowCounter(3);
        x.transfer(0, 0, 1, 10);
        x.transfer(1, 0, 2, 20);
        Steps.tell(x, 0, 1);
        Steps.tell(x, 0, 2);
        x.increase(0, 5);
        x.increase(1, 7);
        x.decrease(2, 20);
        CHECK.same("value", x.value(), 42);
        CHECK.same("known at 0", x.known(0), 55);
        CHECK.same("known at 1", x.known(1), 57);
        CHECK.same("known at 2", x.known(2), 30);
        Steps.tell(x, 2, 1);
        CHECK.same("known at 1 then", x.known(1), 37);
        Steps.tell(x, 1, 0);
        CHECK.same("0 knows all", x.known(0), 42);
        x.begin(-100, -50, -70);
        x.decrease(0, 30);
        CHECK.same("a value under 0", x.value(), -100);
        CHECK.same("known at 1 is the start value", x.known(1), -70);
    }

    private static void rightsWithTransfersAndLoans() {
        EscrowCounter x = new EscrowCounter(2);
        x.transfer(0, 0, 1, 8);
        x.lend(0, 0, 1, 10, 5);
        Steps.tell(x, 0, 1);
        CHECK.same("own of the lender", x.own(0, 0), 32);
        CHECK.same("available of the lender", x.available(0, 0), 32);
        CHECK.same("own of the borrower", x.own(1, 0), 8);
        CHECK.same("available of the borrower", x.available(1, 0), 18);
        x.increase(1, 4);
        CHECK.same("own after use of the loan", x.own(1, 0), 8);
        CHECK.same("available after use of the loan", x.available(1, 0), 14);
        CHECK.same("down after an increase", x.own(1, 1), 4);
        x.pass(5);
        CHECK.same("own of the borrower at the end", x.own(1, 0), 8);
        CHECK.same("available of the borrower at the end", x.available(1, 0), 8);
        CHECK.same("own of the lender does not grow yet", x.own(0, 0), 32);
        Steps.tell(x, 1, 0);
        CHECK.same("the rest has come back", x.own(0, 0), 38);
        CHECK.same("available of the lender then", x.available(0, 0), 38);
        CHECK.same("nothing of the other kind", x.own(0, 1), 50);
    }

    private static void dormantRights() {
        EscrowCounter x = new EscrowCounter(2);
        CHECK.same("none at first", x.dormant(0) + x.dormant(1), 0);
        x.transfer(0, 0, 1, 20);
        x.lend(1, 0, 1, 15, 2);
        CHECK.same("a transfer under way", x.dormant(0), 20);
        CHECK.same("a loan that is not known", x.dormant(1), 15);
        Steps.tell(x, 0, 1);
        CHECK.same("a transfer that has come", x.dormant(0), 0);
        CHECK.same("a loan that is known", x.dormant(1), 0);
        x.decrease(1, 4);
        CHECK.same("use of the loan", x.dormant(1), 0);
        x.pass(2);
        CHECK.same("a loan that is over", x.dormant(1), 11);
        Steps.tell(x, 1, 0);
        CHECK.same("a loan that has come back", x.dormant(1), 0);
        x.begin(-10, 10, 3);
        x.transfer(0, 0, 1, 7);
        x.transfer(1, 0, 1, 13);
        CHECK.same("all up", x.dormant(0), 7);
        CHECK.same("all down", x.dormant(1), 13);
    }

    private static void knowledge() {
        EscrowCounter x = new EscrowCounter(3);
        x.increase(1, 6);
        x.decrease(1, 9);
        x.pass(3);
        Steps.tell(x, 1, 2);
        x.increase(1, 1);
        CHECK.same("demand up as 2 knows it", x.demand(2, 1, 0), 6);
        CHECK.same("demand down as 2 knows it", x.demand(2, 1, 1), 9);
        CHECK.same("demand up as 1 knows it", x.demand(1, 1, 0), 7);
        CHECK.same("demand as 0 knows it", x.demand(0, 1, 1), 0);
        CHECK.same("version as 2 has it", x.version(2, 1), 2);
        CHECK.same("version as 1 has it", x.version(1, 1), 3);
        CHECK.same("version as 0 has it", x.version(0, 1), 0);
        x.pass(4);
        CHECK.same("time of the copy at 2", x.copyTime(2, 1), 3);
        CHECK.same("time of the copy at 0", x.copyTime(0, 1), 0);
        CHECK.same("time of the own record", x.copyTime(1, 1), 7);
    }

    private static void wrongInputs() {
        EscrowCounter x = new EscrowCounter(3);
        int[] noSites = {-1, 3, Integer.MIN_VALUE, Integer.MAX_VALUE};
        for (int s : noSites) {
            CHECK.noSuch("known " + s, x, () -> x.known(s));
            CHECK.noSuch("own " + s, x, () -> x.own(s, 0));
            CHECK.noSuch("available " + s, x, () -> x.available(s, 0));
            CHECK.noSuch("demand at " + s, x, () -> x.demand(s, 0, 0));
            CHECK.noSuch("demand of " + s, x, () -> x.demand(0, s, 0));
            CHECK.noSuch("version at " + s, x, () -> x.version(s, 0));
            CHECK.noSuch("version of " + s, x, () -> x.version(0, s));
            CHECK.noSuch("copyTime at " + s, x, () -> x.copyTime(s, 0));
            CHECK.noSuch("copyTime of " + s, x, () -> x.copyTime(0, s));
        }
        int[] noKinds = {-1, 2, Integer.MIN_VALUE, Integer.MAX_VALUE};
        for (int kind : noKinds) {
            CHECK.noSuch("own of kind " + kind, x, () -> x.own(0, kind));
            CHECK.noSuch("available of kind " + kind, x, () -> x.available(0, kind));
            CHECK.noSuch("dormant of kind " + kind, x, () -> x.dormant(kind));
            CHECK.noSuch("demand of kind " + kind, x, () -> x.demand(0, 0, kind));
        }
    }
}
