/** Rights in the description; promises 6, 19 to 21 and 27. */
final class RightsEdges {
    private RightsEdges() {
    }

    static void all(Edges edges) {
        ownRights(edges);
        ownRightsByLoans(edges);
        availableRights(edges);
        transfers(edges);
        questions(edges);
        helpers(edges);
    }

    private static void ownRights(Edges edges) {
        edges.description("A site s has own rights of a kind k (all numbers of other sites by its copies)", check -> {
            EscrowCounter x = new EscrowCounter(2);
            x.transfer(0, 0, 1, 50);
            x.send(0, 1);
            check.same("its own numbers at once", x.own(0, 0), 0);
            check.same("a transfer is not known yet", x.own(1, 0), 0);
            x.deliver(0);
            check.same("now it is", x.own(1, 0), 50);
        });
        edges.description("+ the rights of the beginning", check -> {
            EscrowCounter x = new EscrowCounter(5);
            x.begin(-3, 4, 2);
            check.same("up", x.own(0, 0), 2);
            check.same("down", x.own(0, 1), 5);
            check.same("of the last site", x.own(4, 1), 0);
        });
        edges.description("+ for kind 0 its decreases minus its increases", check -> {
            EscrowCounter x = new EscrowCounter(2);
            x.increase(0, 50);
            check.same("all used", x.own(0, 0), 0);
            x.decrease(0, 100);
            check.same("all there", x.own(0, 0), 100);
        });
        edges.description("for kind 1 its increases minus its decreases", check -> {
            EscrowCounter x = new EscrowCounter(2);
            x.decrease(0, 50);
            check.same("all used", x.own(0, 1), 0);
            x.increase(0, 100);
            check.same("all there", x.own(0, 1), 100);
        });
        edges.description("what all other sites have transferred to s, minus what s has transferred to", check -> {
            EscrowCounter x = Scenes.spread(5);
            int before = x.own(2, 1);
            for (int site = 0; site < 5; site++) {
                if (site != 2) {
                    x.transfer(1, site, 2, 1 << site);
                    Steps.tell(x, site, 2);
                }
            }
            check.same("from all others", x.own(2, 1), before + 27);
            for (int site = 0; site < 5; site++) {
                if (site != 2) {
                    x.transfer(1, 2, site, 1 << site);
                }
            }
            check.same("and to all others", x.own(2, 1), before);
            x.transfer(0, 2, 0, 999);
            check.same("another kind", x.own(2, 1), before);
        });
    }

    private static void ownRightsByLoans(Edges edges) {
        edges.description("+ what s has used of loans of kind k that it has borrowed", check -> {
            EscrowCounter x = borrowed();
            x.increase(1, 10);
            check.same("a loan that is used up", x.own(1, 0), 0);
            check.same("gives own rights of the other kind", x.own(1, 1), 10);
            x.pass(5);
            check.same("at its end too", x.own(1, 0), 0);
            check.same("and can be taken back", x.decrease(1, 10), true);
            check.same("which gives own rights", x.own(1, 0), 10);
        });
        edges.description("- the amounts of all loans of kind k that it has made", check -> {
            EscrowCounter x = new EscrowCounter(2);
            x.lend(0, 0, 1, 20, 5);
            x.lend(0, 0, 1, 30, 5);
            check.same("all of this kind", x.own(0, 0), 0);
            check.same("none of the other", x.own(0, 1), 50);
            x.pass(5);
            check.same("also at the end", x.own(0, 0), 0);
        });
        edges.description("for each of them that has come back, its amount minus what the borrower has", check -> {
            check.same("nothing used", ownAfterUse(0), 50);
            check.same("all but one used", ownAfterUse(9), 41);
            check.same("all used", ownAfterUse(10), 40);
            EscrowCounter x = new EscrowCounter(2);
            x.lend(0, 0, 1, 10, 5);
            x.lend(0, 0, 1, 10, 6);
            x.pass(5);
            Steps.tell(x, 1, 0);
            check.same("one of two has come back", x.own(0, 0), 40);
        });
        edges.description("(Own rights are never negative.)", check -> {
            EscrowCounter x = borrowed();
            x.transfer(0, 0, 1, 40);
            check.same("all given away", x.own(0, 0), 0);
            check.same("a use is refused", x.increase(0, 1), false);
            Steps.tell(x, 0, 1);
            x.increase(1, 50);
            check.same("all used", x.own(1, 0), 0);
            check.same("a use is refused", x.increase(1, 1), false);
            x.pass(5);
            Steps.tell(x, 1, 0);
            check.same("nothing comes back", x.own(0, 0), 0);
            check.same("no rights either", x.own(1, 0), 0);
        });
    }

    /** Of site 0's 50 rights up, 10 are lent to site 1, which knows it, until time 5. */
    private static EscrowCounter borrowed() {
        EscrowCounter x = new EscrowCounter(2);
        x.lend(0, 0, 1, 10, 5);
        Steps.tell(x, 0, 1);
        return x;
    }

    private static int ownAfterUse(int amount) {
        EscrowCounter x = borrowed();
        if (amount > 0) {
            x.increase(1, amount);
        }
        x.pass(5);
        Steps.tell(x, 1, 0);
        return x.own(0, 0);
    }

    private static void availableRights(Edges edges) {
        edges.description("The available rights of s are its own rights plus the rests of all loans of this kind "
                + "that it knows", check -> {
            EscrowCounter x = borrowed();
            x.transfer(0, 0, 1, 3);
            x.lend(0, 0, 1, 7, 5);
            x.lend(1, 0, 1, 20, 5);
            Steps.tell(x, 0, 1);
            x.lend(0, 0, 1, 1, 5);
            check.same("own and two rests", x.available(1, 0), 20);
            check.same("of the other kind", x.available(1, 1), 20);
            check.same("of the lender", x.available(0, 0), 29);
            x.increase(1, 10);
            check.same("one is used up", x.available(1, 0), 10);
            x.pass(4);
            check.same("before the end", x.available(1, 0), 10);
            x.pass(1);
            check.same("at the end", x.available(1, 0), 3);
        });
    }

    private static void transfers(Edges edges) {
        edges.description("Transfers and loans need as many own rights", check -> {
            check.same("just as many", borrowed().transfer(0, 0, 1, 40), 0);
            check.vain("one too many", RightsEdges::borrowed, IllegalStateException.class,
                    x -> x.transfer(0, 0, 1, 41));
            check.same("a loan of just as many", borrowed().lend(0, 0, 1, 40, 1), 1);
            check.vain("a loan of one too many", RightsEdges::borrowed, IllegalStateException.class,
                    x -> x.lend(0, 0, 1, 41, 1));
            check.vain("available ones are not enough", RightsEdges::borrowed, IllegalStateException.class,
                    x -> x.transfer(0, 1, 0, 1));
        });
        edges.promise(6, "Transfers rights from a site to another one", check -> {
            EscrowCounter x = new EscrowCounter(5);
            x.transfer(1, 0, 4, 50);
            Steps.tell(x, 0, 4);
            check.same("all at the other site", x.own(4, 1), 50);
            check.same("none at the first", x.own(0, 1), 0);
            check.same("none at a third", x.own(3, 1), 0);
            check.same("none of the other kind", x.own(4, 0), 0);
        });
        edges.promise(6, "Returns the own rights of this kind that are left at the first site", check -> {
            check.same("all but one", new EscrowCounter(2).transfer(0, 0, 1, 49), 1);
            check.same("none", new EscrowCounter(2).transfer(1, 0, 1, 50), 0);
            check.same("beside loans", Scenes.lively().transfer(0, 0, 2, 1), 39);
        });
        edges.promise(6, "if both sites are the same", check -> {
            for (int n = 2; n <= 5; n++) {
                int sites = n;
                for (int s = 0; s < n; s++) {
                    int site = s;
                    check.vain("site " + s, () -> Scenes.spread(sites), IllegalArgumentException.class,
                            x -> x.transfer(0, site, site, 1));
                }
            }
        });
        edges.promise(6, "the site has not so many own rights", check -> {
            check.same("just so many", Scenes.lively().transfer(0, 0, 1, 40), 0);
            check.vain("one too many", Scenes::lively, IllegalStateException.class, x -> x.transfer(0, 0, 1, 41));
            check.vain("none yet, though they are under way", Scenes::lively, IllegalStateException.class,
                    x -> x.transfer(0, 1, 0, 1));
            check.vain("what it has borrowed is not its own", Scenes::lively, IllegalStateException.class,
                    x -> x.transfer(0, 2, 0, 1));
            check.vain("the greatest amount", Scenes::lively, IllegalStateException.class,
                    x -> x.transfer(1, 0, 1, 999));
        });
    }

    private static void questions(Edges edges) {
        edges.promise(19, "Returns the own rights of a site", check -> {
            EscrowCounter x = new EscrowCounter(2);
            x.begin(-10000, 10000, -10000);
            check.same("the most", x.own(0, 0), 20000);
            check.same("the fewest", x.own(0, 1), 0);
        });
        edges.promise(19, "Returns the number of rights",
                check -> check.idle("lively", Scenes::lively, 0, x -> x.own(2, 0)));
        edges.promise(20, "Returns the available rights of a site", check -> {
            EscrowCounter x = new EscrowCounter(2);
            check.same("without loans its own", x.available(0, 0), 50);
            check.same("none", x.available(1, 1), 0);
        });
        edges.promise(20, "Returns the number of rights",
                check -> check.idle("lively", Scenes::lively, 6, x -> x.available(2, 0)));
        edges.promise(21, "for kind 0 the high bound minus the value minus the available rights of kind 0 of all sites",
                check -> dormantOfKind(check, 0));
        edges.promise(21, "for kind 1 the value minus the low bound minus the available rights of kind 1 of all sites",
                check -> dormantOfKind(check, 1));
        edges.promise(21, "Returns the number of rights (it is never less than 0)", check -> {
            check.idle("lively up", Scenes::lively, 4, x -> x.dormant(0));
            check.idle("lively down", Scenes::lively, 0, x -> x.dormant(1));
            EscrowCounter x = new EscrowCounter(2);
            x.begin(7, 7, 7);
            check.same("without any rights", x.dormant(0) + x.dormant(1), 0);
        });
    }

    private static void dormantOfKind(Check check, int kind) {
        EscrowCounter x = new EscrowCounter(3);
        x.begin(-30, 50, 10);
        check.same("none at first", x.dormant(kind), 0);
        x.transfer(kind, 0, 1, 40);
        check.same("all that are under way", x.dormant(kind), 40);
        Steps.tell(x, 0, 1);
        check.same("none when they are there", x.dormant(kind), 0);
        x.lend(kind, 1, 2, 40, 3);
        check.same("a loan that is not known", x.dormant(kind), 40);
        Steps.tell(x, 1, 2);
        check.same("a loan that is known", x.dormant(kind), 0);
        boolean isDone = kind == 0 ? x.increase(2, 39) : x.decrease(2, 39);
        check.same("its use", isDone, true);
        check.same("a loan that is used", x.dormant(kind), 0);
        x.pass(3);
        check.same("a loan that is over", x.dormant(kind), 1);
        Steps.tell(x, 2, 1);
        check.same("a loan that has come back", x.dormant(kind), 0);
        check.same("the other kind", x.dormant(1 - kind), 0);
    }

    private static void helpers(Edges edges) {
        edges.promise(27, "Finds the least number of other sites whose rights a site needs", check -> {
            for (int n = 2; n <= 5; n++) {
                EscrowCounter x = Scenes.spread(n);
                int all = 0;
                for (int site = 1; site < n; site++) {
                    all += x.own(site, 0);
                }
                check.same("all others of " + n, x.helpers(0, 0, x.own(0, 0) + all), n - 1);
                check.same("nobody of " + n, x.helpers(0, 0, x.own(0, 0)), 0);
                check.same("one of " + n, x.helpers(0, 0, x.own(0, 0) + 1), 1);
            }
        });
        edges.promise(27, "Returns the least number of other sites", check -> {
            int[] given = {0, 5, 20, 10, 1};
            for (int turn = 1; turn < 5; turn++) {
                EscrowCounter x = new EscrowCounter(5);
                for (int site = 1; site < 5; site++) {
                    x.transfer(0, 0, site, given[(site + turn) % 4 + 1]);
                    Steps.tell(x, 0, site);
                }
                // Then site 0 has 14 of the 50 rights, the others have 1, 5, 10 and 20 in some order.
                check.same("the greatest of all", x.helpers(0, 0, 14 + 20), 1);
                check.same("one more", x.helpers(0, 0, 14 + 21), 2);
                check.same("the two greatest", x.helpers(0, 0, 14 + 30), 2);
                check.same("one more", x.helpers(0, 0, 14 + 31), 3);
                check.same("the three greatest", x.helpers(0, 0, 14 + 35), 3);
                check.same("all", x.helpers(0, 0, 14 + 36), 4);
                check.same("one more", x.helpers(0, 0, 14 + 37), -1);
            }
        });
        edges.promise(27, "the available rights of the site and the own rights of these sites are at least the amount "
                + "together", check -> {
            check.idle("amount 0 without any rights", Scenes::lively, 0, x -> x.helpers(1, 0, 0));
            check.idle("amount 1 without any rights", Scenes::lively, 1, x -> x.helpers(1, 0, 1));
            check.idle("available ones of the site", Scenes::lively, 0, x -> x.helpers(2, 0, 6));
            check.idle("just enough with one", Scenes::lively, 1, x -> x.helpers(2, 0, 46));
            check.idle("own ones alone of the others", Scenes::lively, 1, x -> x.helpers(1, 0, 40));
            check.idle("the borrowed ones of the others do not count", Scenes::lively, -1, x -> x.helpers(1, 0, 41));
        });
        edges.promise(27, "-1 if all together are not enough", check -> {
            EscrowCounter x = new EscrowCounter(5);
            check.same("all together just enough", x.helpers(4, 0, 50), 1);
            check.same("one too many", x.helpers(4, 0, 51), -1);
            check.same("one too many of its own", x.helpers(0, 1, 51), -1);
            x.begin(-10000, 10000, -10000);
            check.same("as many as there can be", x.helpers(0, 0, 20000), 0);
            check.same("one more", x.helpers(0, 0, 20001), -1);
            check.same("the greatest amount", x.helpers(1, 0, 30000), -1);
            check.same("of kind 1 there are none", x.helpers(1, 1, 1), -1);
            check.same("and none are needed", x.helpers(1, 1, 0), 0);
        });
    }
}
