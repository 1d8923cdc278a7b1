/** Loans in the description; promises 7, 25 and 26. */
final class LoanEdges {
    private LoanEdges() {
    }

    static void all(Edges edges) {
        numbers(edges);
        knowing(edges);
        comingBack(edges);
        lending(edges);
        facts(edges);
    }

    private static void numbers(Edges edges) {
        edges.description("There are at most 10 loans", check -> {
            check.same("the tenth", Scenes.withLoans(9).lend(1, 0, 1, 1, 1), 9);
            check.vain("the eleventh", () -> Scenes.withLoans(10), IllegalStateException.class,
                    x -> x.lend(0, 0, 1, 1, 1));
            check.vain("though all have come back", LoanEdges::tenThatCameBack, IllegalStateException.class,
                    x -> x.lend(0, 0, 1, 1, 1));
            EscrowCounter x = Scenes.withLoans(10);
            x.undo();
            check.same("a loan that is undone is none", x.lend(1, 0, 1, 7, 7), 9);
            EscrowCounter undone = knownLoan(9, 8);
            undone.lend(0, 0, 1, 9, 2);
            Steps.tell(undone, 0, 1);
            for (int i = 0; i < 3; i++) {
                undone.undo();
            }
            check.same("nor are there rights of it", undone.available(1, 0), 9);
            undone.increase(1, 4);
            check.same("so that the one before it is used", undone.loan(0, 5), 4);
        });
        edges.description("numbered from 0 in the order in which they are made", check -> {
            EscrowCounter x = Scenes.spread(3);
            x.begin(0, 100, 50);
            x.transfer(0, 0, 1, 20);
            Steps.tell(x, 0, 1);
            for (int i = 0; i < 10; i++) {
                check.same("number", x.lend(0, i % 2, 2, 1 + i / 2, 9 - i / 2), i);
            }
            for (int i = 0; i < 10; i++) {
                check.same("lender of " + i, x.loan(i, 0), i % 2);
                check.same("amount of " + i, x.loan(i, 3), 1 + i / 2);
            }
        });
        edges.description("A loan has a lender, a borrower, a kind, an amount and an end", check -> {
            EscrowCounter x = Scenes.spread(5);
            int least = x.lend(0, 4, 0, 1, 1);
            int greatest = x.lend(1, 0, 4, 999, 1000);
            check.same("the least", facts(x, least), "4 0 0 1 3 0 0 0");
            check.same("the greatest", facts(x, greatest), "0 4 1 999 1002 0 0 0");
        });
    }

    private static EscrowCounter tenThatCameBack() {
        EscrowCounter x = Scenes.withLoans(10);
        x.pass(5);
        Steps.tell(x, 1, 0);
        return x;
    }

    private static String facts(EscrowCounter x, int loan) {
        StringBuilder all = new StringBuilder();
        for (int what = 0; what < 8; what++) {
            all.append(what == 0 ? "" : " ").append(x.loan(loan, what));
        }
        return all.toString();
    }

    private static void knowing(Edges edges) {
        edges.description("The borrower knows a loan if its copy of the record of the lender contains it", check -> {
            EscrowCounter x = new EscrowCounter(3);
            x.send(0, 1);
            x.lend(0, 0, 1, 9, 50);
            x.deliver(0);
            check.same("a message from before the loan", x.available(1, 0), 0);
            check.same("its use is refused", x.increase(1, 1), false);
            Steps.tell(x, 0, 2);
            check.same("a message to another site", x.available(1, 0), 0);
            Steps.tell(x, 2, 1);
            check.same("a message from another site", x.available(1, 0), 9);
            check.same("that site has nothing of it", x.available(2, 0), 0);
        });
        edges.description("As long as the time is less than the end", check -> {
            for (int duration : new int[] {2, 1000}) {
                EscrowCounter x = knownLoan(9, duration);
                x.pass(duration - 1);
                check.same("rest just before the end", x.loan(0, 6), 9);
                check.same("its use", x.increase(1, 9), true);
            }
        });
        edges.description("the rest of a known loan is its amount minus what the borrower has used of it", check -> {
            EscrowCounter x = knownLoan(9, 2);
            check.same("nothing used", x.loan(0, 6), 9);
            x.increase(1, 8);
            check.same("all but one used", x.loan(0, 6), 1);
            x.increase(1, 1);
            check.same("all used", x.loan(0, 6), 0);
            check.same("used", x.loan(0, 5), 9);
            check.same("one more", x.increase(1, 1), false);
        });
        edges.description("otherwise its rest is 0", check -> {
            for (int duration : new int[] {1, 1000}) {
                EscrowCounter x = knownLoan(9, duration);
                x.pass(duration);
                check.same("rest at the end", x.loan(0, 6), 0);
                check.same("its use is refused", x.increase(1, 1), false);
                check.same("used", x.loan(0, 5), 0);
                x.pass(1);
                check.same("rest after the end", x.loan(0, 6), 0);
            }
        });
    }

    /** A loan of kind 0 from 0 to 1, number 0, that 1 knows and 2 does not. */
    private static EscrowCounter knownLoan(int amount, int duration) {
        EscrowCounter x = new EscrowCounter(3);
        x.lend(0, 0, 1, amount, duration);
        Steps.tell(x, 0, 1);
        return x;
    }

    private static void comingBack(Edges edges) {
        edges.description("A loan has come back if the time is at least the end", check -> {
            EscrowCounter x = knownLoan(9, 1000);
            check.same("at once", x.loan(0, 7), 0);
            x.pass(999);
            Steps.tell(x, 1, 0);
            check.same("just before the end", x.loan(0, 7), 0);
            x.pass(1);
            Steps.tell(x, 1, 0);
            check.same("at the end", x.loan(0, 7), 1);
            x.pass(1000);
            check.same("and from then on", x.loan(0, 7), 1);
            for (int i = 0; i < 4; i++) {
                x.undo();
            }
            check.same("but not when the end is undone", x.loan(0, 7), 0);
        });
        edges.description("the lender's copy of the record of the borrower has a time that is at least", check -> {
            EscrowCounter x = knownLoan(9, 5);
            x.pass(4);
            x.send(1, 0);
            x.pass(1);
            check.same("no copy at all", x.loan(0, 7), 0);
            x.deliver(0);
            check.same("a copy from just before the end", x.loan(0, 7), 0);
            Steps.tell(x, 2, 0);
            check.same("a copy of another site from the end", x.loan(0, 7), 0);
            Steps.tell(x, 1, 2);
            check.same("a copy from the end, at another site", x.loan(0, 7), 0);
            Steps.tell(x, 2, 0);
            check.same("a copy from the end", x.loan(0, 7), 1);
        });
    }

    private static void lending(Edges edges) {
        edges.promise(7, "Lends rights from a site to another one", check -> {
            EscrowCounter x = new EscrowCounter(2);
            x.lend(0, 0, 1, 50, 3);
            check.same("all own rights of the lender", x.own(0, 0), 0);
            check.same("of the other kind none", x.own(0, 1), 50);
            Steps.tell(x, 0, 1);
            check.same("own rights of the borrower", x.own(1, 0), 0);
            check.same("available there", x.available(1, 0), 50);
        });
        edges.promise(7, "the end minus the time", check -> {
            EscrowCounter x = new EscrowCounter(2);
            x.lend(0, 0, 1, 1, 1);
            x.pass(1000);
            x.lend(0, 0, 1, 1, 1000);
            check.same("least", x.loan(0, 4), 1);
            check.same("greatest", x.loan(1, 4), 2000);
            EscrowCounter late = Scenes.atTime(1000000);
            check.same("behind the last time", late.loan(late.lend(0, 0, 1, 1, 1000), 4), 1001000);
        });
        edges.promise(7, "Returns the number of the loan", check -> {
            check.same("the first", new EscrowCounter(2).lend(0, 0, 1, 1, 1), 0);
            check.same("the tenth", Scenes.withLoans(9).lend(0, 0, 1, 1, 1), 9);
        });
        edges.promise(7, "if both sites are the same", check -> {
            for (int n = 2; n <= 5; n++) {
                int sites = n;
                for (int s = 0; s < n; s++) {
                    int site = s;
                    check.vain("site " + s, () -> Scenes.spread(sites), IllegalArgumentException.class,
                            x -> x.lend(1, site, site, 1, 1));
                }
            }
        });
        edges.promise(7, "if there are 10 loans", check -> check.vain("the eleventh", Scenes::full,
                IllegalStateException.class, x -> x.lend(1, 0, 1, 1, 1)));
        edges.promise(7, "the lender has not so many own rights", check -> {
            check.same("just so many", Scenes.lively().lend(0, 0, 1, 40, 1), 1);
            check.vain("one too many", Scenes::lively, IllegalStateException.class, x -> x.lend(0, 0, 1, 41, 1));
            check.vain("none", Scenes::lively, IllegalStateException.class, x -> x.lend(0, 1, 0, 1, 1));
            check.vain("what it has borrowed is not its own", Scenes::lively, IllegalStateException.class,
                    x -> x.lend(0, 2, 0, 1, 1));
        });
    }

    private static void facts(Edges edges) {
        edges.promise(25, "Counts the loans", check -> {
            for (int loans = 0; loans <= 10; loans++) {
                check.same("loans", Scenes.withLoans(loans).loans(), loans);
            }
        });
        edges.promise(25, "Returns the number of loans", check -> {
            check.idle("none", () -> new EscrowCounter(2), 0, EscrowCounter::loans);
            check.idle("ten that have come back", LoanEdges::tenThatCameBack, 10, EscrowCounter::loans);
        });
        edges.promise(26, "Returns something about a loan", check -> {
            check.same("of one that is known", facts(Scenes.lively(), 0), "0 2 0 6 9 0 6 0");
            check.same("of one that came back", facts(tenThatCameBack(), 9), "0 1 1 1 5 0 0 1");
        });
        edges.promise(26, "5 what the borrower has used of it", check -> {
            EscrowCounter x = knownLoan(9, 5);
            x.increase(1, 4);
            check.same("though the lender has not heard", x.loan(0, 5), 4);
            x.decrease(1, 4);
            check.same("a decrease gives nothing back", x.loan(0, 5), 4);
            x.pass(5);
            check.same("after the end", x.loan(0, 5), 4);
        });
        edges.promise(26, "6 its rest for the borrower now (0 if it does not know it)", check -> {
            EscrowCounter x = new EscrowCounter(2);
            x.lend(0, 0, 1, 9, 5);
            check.same("not known", x.loan(0, 6), 0);
            Steps.tell(x, 0, 1);
            check.same("known", x.loan(0, 6), 9);
            x.pass(5);
            check.same("at its end", x.loan(0, 6), 0);
        });
        edges.promise(26, "7 1 if it has come back, else 0", check -> {
            check.same("not yet", Scenes.withLoans(10).loan(9, 7), 0);
            check.same("come back", tenThatCameBack().loan(9, 7), 1);
        });
        edges.promise(26, "Returns that number", check -> check.idle("lively", Scenes::lively, 6, x -> x.loan(0, 6)));
        edges.promise(26, "if there is no such loan", check -> {
            check.vain("of none", () -> new EscrowCounter(2), IndexOutOfBoundsException.class, x -> x.loan(0, 0));
            check.vain("of ten", () -> Scenes.withLoans(10), IndexOutOfBoundsException.class, x -> x.loan(10, 0));
            check.same("the last of ten", Scenes.withLoans(10).loan(9, 3), 1);
        });
    }
}
