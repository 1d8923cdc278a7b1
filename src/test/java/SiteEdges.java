/** Sites and records in the description; promises 1 to 3, 16 to 18 and 22 to 24. */
final class SiteEdges {
    private SiteEdges() {
    }

    static void all(Edges edges) {
        sites(edges);
        records(edges);
        newObjects(edges);
        beginnings(edges);
        questions(edges);
    }

    private static void sites(Edges edges) {
        edges.description("There are n sites, numbered from 0 to n - 1", SiteEdges::numbersOfSites);
        edges.description("There are two kinds of rights: 0 up (to increase the counter)", check -> {
            EscrowCounter x = begun(0, 100, 30);
            check.same("rights up", x.own(0, 0), 70);
            check.same("all of them", x.increase(0, 70), true);
            check.same("one more", x.increase(0, 1), false);
        });
        edges.description("and 1 down (to decrease it)", check -> {
            EscrowCounter x = begun(0, 100, 30);
            check.same("rights down", x.own(0, 1), 30);
            check.same("all of them", x.decrease(0, 30), true);
            check.same("one more", x.decrease(0, 1), false);
        });
        edges.description("The time is a number, initially 0",
                check -> check.same("time", new EscrowCounter(2).time(), 0));
        edges.description("initially 0, 100 and 50", check -> {
            EscrowCounter x = new EscrowCounter(2);
            check.same("start value", x.value(), 50);
            check.same("up to the high bound", x.increase(0, 50), true);
            check.same("beyond it", x.increase(0, 1), false);
            check.same("down to the low bound", x.decrease(0, 100), true);
            check.same("below it", x.decrease(0, 1), false);
            check.same("value", x.value(), 0);
        });
        edges.description("site 0 has high - start rights of kind 0 and start - low rights of kind 1", check -> {
            check.same("between the bounds", rightsOfSite0(-7, 12, 3), "9 10");
            check.same("start at the low bound", rightsOfSite0(-7, 12, -7), "19 0");
            check.same("start at the high bound", rightsOfSite0(-7, 12, 12), "0 19");
            check.same("low and high the same", rightsOfSite0(4, 4, 4), "0 0");
            check.same("the widest bounds", rightsOfSite0(-10000, 10000, -10000), "20000 0");
            check.same("the widest bounds, from above", rightsOfSite0(-10000, 10000, 10000), "0 20000");
        });
        edges.description("the other sites have none", check -> {
            for (int n = 2; n <= 5; n++) {
                EscrowCounter x = new EscrowCounter(n);
                for (int site = 1; site < n; site++) {
                    check.same("own up", x.own(site, 0), 0);
                    check.same("own down", x.own(site, 1), 0);
                    check.same("the least increase", x.increase(site, 1), false);
                    check.same("the least decrease", x.decrease(site, 1), false);
                }
            }
        });
    }

    private static void numbersOfSites(Check check) {
        for (int n = 2; n <= 5; n++) {
            int sites = n;
            for (int site = 0; site < n; site++) {
                check.same("known at " + site + " of " + n, new EscrowCounter(n).known(site), 50);
            }
            check.vain("site -1 of " + n, () -> new EscrowCounter(sites), IndexOutOfBoundsException.class,
                    x -> x.known(-1));
            check.vain("site " + n + " of " + n, () -> new EscrowCounter(sites), IndexOutOfBoundsException.class,
                    x -> x.known(sites));
        }
    }

    private static String rightsOfSite0(int low, int high, int start) {
        EscrowCounter x = begun(low, high, start);
        return x.own(0, 0) + " " + x.own(0, 1);
    }

    private static EscrowCounter begun(int low, int high, int start) {
        EscrowCounter x = new EscrowCounter(2);
        x.begin(low, high, start);
        return x;
    }

    private static void records(Edges edges) {
        edges.description("its version (0 at first, 1 more with each change)", SiteEdges::versions);
        edges.description("the sum of its increases, the sum of its decreases", check -> {
            EscrowCounter x = new EscrowCounter(2);
            x.increase(0, 3);
            x.increase(0, 4);
            x.decrease(0, 1);
            x.decrease(0, 1);
            Steps.tell(x, 0, 1);
            check.same("sums by a message", x.known(1), 55);
        });
        edges.description("for each kind and each site the sum of the rights that it has transferred to this site",
                SiteEdges::sumsOfTransfers);
        edges.description("for each kind its demand", check -> {
            EscrowCounter x = new EscrowCounter(2);
            x.increase(1, 3);
            x.decrease(1, 999);
            Steps.tell(x, 1, 0);
            check.same("up", x.demand(0, 1, 0), 3);
            check.same("down", x.demand(0, 1, 1), 999);
        });
        edges.description("the loans that it has made, and what it has used of each loan that it has", check -> {
            EscrowCounter x = new EscrowCounter(2);
            x.lend(0, 0, 1, 6, 5);
            x.lend(0, 0, 1, 8, 5);
            Steps.tell(x, 0, 1);
            check.same("both loans by one message", x.available(1, 0), 14);
            x.increase(1, 9);
            x.pass(5);
            Steps.tell(x, 1, 0);
            check.same("what was used of both by one message", x.own(0, 0), 41);
        });
        edges.description("the records of the beginning, at time 0, at first", check -> {
            EscrowCounter x = new EscrowCounter(3);
            x.increase(0, 2);
            x.decrease(1, 7);
            x.pass(1000);
            for (int of = 0; of < 2; of++) {
                check.same("version", x.version(2, of), 0);
                check.same("time of the copy", x.copyTime(2, of), 0);
                check.same("demand", x.demand(2, of, 1), 0);
            }
            check.same("value", x.known(2), 50);
        });
        edges.description("Its own record is always up to date; its time is the present time", SiteEdges::ownRecords);
    }

    private static void versions(Check check) {
        EscrowCounter x = new EscrowCounter(3);
        check.same("at first", x.version(0, 0), 0);
        x.increase(0, 50);
        check.same("an increase", x.version(0, 0), 1);
        x.increase(0, 1);
        check.same("a refused increase", x.version(0, 0), 2);
        x.decrease(0, 60);
        check.same("a decrease", x.version(0, 0), 3);
        x.decrease(0, 41);
        check.same("a refused decrease", x.version(0, 0), 4);
        x.transfer(0, 0, 1, 1);
        check.same("a transfer", x.version(0, 0), 5);
        x.lend(0, 0, 1, 1, 9);
        check.same("a loan", x.version(0, 0), 6);
        x.pass(1);
        Steps.tell(x, 0, 1);
        Steps.tell(x, 1, 0);
        x.repeat(x.send(0, 2));
        x.lose(0);
        check.same("time and messages are no changes of a record", x.version(0, 0), 6);
        check.same("nor is what others give", x.version(1, 1), 0);
        x.increase(1, 2);
        check.same("one change, though of a loan and of own rights", x.version(1, 1), 1);
        Steps.run(x, "+0:1;-0:1;u0>1:1;d0>1:1;m0>1;t1");
        check.same("four changes in a script", x.version(0, 0), 10);
    }

    private static void sumsOfTransfers(Check check) {
        EscrowCounter x = new EscrowCounter(3);
        x.transfer(0, 0, 1, 1);
        x.transfer(0, 0, 1, 2);
        x.transfer(1, 0, 1, 4);
        x.transfer(0, 0, 2, 8);
        x.transfer(1, 0, 2, 16);
        Steps.tell(x, 0, 1);
        Steps.tell(x, 0, 2);
        check.same("up at 1", x.own(1, 0), 3);
        check.same("down at 1", x.own(1, 1), 4);
        check.same("up at 2", x.own(2, 0), 8);
        check.same("down at 2", x.own(2, 1), 16);
    }

    private static void ownRecords(Check check) {
        EscrowCounter x = new EscrowCounter(5);
        x.pass(1);
        x.pass(1000);
        for (int site = 0; site < 5; site++) {
            check.same("time at " + site, x.copyTime(site, site), 1001);
            x.increase(site, 60);
            check.same("version at " + site, x.version(site, site), 1);
            check.same("demand at " + site, x.demand(site, site, 0), site == 0 ? 10 : 60);
        }
        check.same("a script's time too", Steps.run(x, "t999"), 1);
        check.same("time at 4", x.copyTime(4, 4), 2000);
        x.undo();
        check.same("and undo's", x.copyTime(4, 4), 1001);
        x.begin(0, 1, 0);
        check.same("and begin's", x.copyTime(4, 4), 0);
    }

    private static void newObjects(Edges edges) {
        edges.promise(1, "Creates a counter", check -> {
            EscrowCounter x = new EscrowCounter(5);
            check.same("loans", x.loans(), 0);
            check.same("messages", x.messages(), 0);
            check.same("text", x.clearText(), 0);
            check.fails("history", IllegalStateException.class, x::undo);
            EscrowCounter other = new EscrowCounter(5);
            x.increase(0, 1);
            Steps.type(x, "t1");
            check.same("two counters have nothing in common", other.value() + other.clearText(), 50);
        });
        edges.promise(1, "a value less than 2 means 2", check -> {
            for (int asked : new int[] {1, 0, -1, Integer.MIN_VALUE}) {
                check.same("asked " + asked, new EscrowCounter(asked).sites(), 2);
            }
        });
        edges.promise(1, "a value greater than 5 means 5", check -> {
            for (int asked : new int[] {6, 7, Integer.MAX_VALUE}) {
                check.same("asked " + asked, new EscrowCounter(asked).sites(), 5);
            }
        });
        edges.promise(2, "Returns the number of sites", check -> {
            for (int n = 2; n <= 5; n++) {
                check.same("of a new object", new EscrowCounter(n).sites(), n);
            }
        });
        edges.promise(2, "Returns n", check -> check.idle("asked later", Scenes::full, 3, EscrowCounter::sites));
    }

    private static void beginnings(Edges edges) {
        edges.promise(3, "Begins anew with other bounds: time 0, no loans, no messages, all rights at site 0, "
                + "all records and copies as at the beginning, the history empty", check -> {
            check.same("a full counter", DeepPicture.of(() -> fullOneBegunAnew(0, 100, 50)),
                    DeepPicture.of(SiteEdges::newOneWithTheTextOfAFullOne));
            check.same("and all that follows", DeepPicture.of(() -> withALaterLife(fullOneBegunAnew(0, 100, 50))),
                    DeepPicture.of(() -> withALaterLife(newOneWithTheTextOfAFullOne())));
            EscrowCounter x = fullOneBegunAnew(-10000, 10000, 10000);
            check.same("rights up", x.own(0, 0), 0);
            check.same("rights down", x.own(0, 1), 20000);
            check.same("the first loan", x.lend(1, 0, 1, 1, 1), 0);
            check.same("is not known yet", x.loan(0, 6), 0);
            check.same("the first message", x.send(0, 1), 0);
        });
        edges.promise(3, "The text stays", check -> {
            EscrowCounter x = fullOneBegunAnew(0, 9, 5);
            check.fails("60 characters", IllegalStateException.class, () -> x.type('t'));
            check.same("are run", x.runScript(), 20);
            check.same("from time 0", x.time(), 29);
        });
        edges.promise(3, "Returns the value of the counter before", check -> {
            EscrowCounter x = new EscrowCounter(2);
            check.same("of a new object", x.begin(-10000, -9999, -9999), 50);
            x.decrease(0, 1);
            check.same("at the least bound", x.begin(9999, 10000, 9999), -10000);
            x.increase(0, 1);
            check.same("at the greatest bound", x.begin(0, 0, 0), 10000);
            check.same("without any rights", x.begin(0, 0, 0), 0);
        });
    }

    private static EscrowCounter fullOneBegunAnew(int low, int high, int start) {
        EscrowCounter x = Scenes.full();
        x.begin(low, high, start);
        return x;
    }

    /** Loans of the numbers that there were before, before and after the borrowers hear of them. */
    private static EscrowCounter withALaterLife(EscrowCounter x) {
        for (int loan = 0; loan < 10; loan++) {
            x.lend(1 - loan % 2, 0, 1 + loan % 2, 3, 4);
        }
        x.increase(2, 5);
        x.send(0, 1);
        Steps.tell(x, 0, 2);
        x.increase(2, 4);
        return x;
    }

    private static EscrowCounter newOneWithTheTextOfAFullOne() {
        EscrowCounter x = new EscrowCounter(3);
        Steps.type(x, "t1" + ";t1".repeat(18) + ";t10");
        return x;
    }

    private static void questions(Edges edges) {
        edges.promise(16, "Returns the time", check -> {
            check.idle("at first", () -> new EscrowCounter(2), 0, EscrowCounter::time);
            check.idle("later", () -> Scenes.atTime(1001), 1001, EscrowCounter::time);
        });
        edges.promise(17, "the start value plus all increases minus all decreases of all sites", check -> {
            EscrowCounter x = Scenes.spread(5);
            for (int site = 0; site < 5; site++) {
                x.increase(site, 100 + site);
                x.decrease(site, 1);
            }
            check.same("all sites", x.value(), 505);
        });
        edges.promise(17, "Returns the value", check -> {
            check.idle("of a new object", () -> new EscrowCounter(2), 50, EscrowCounter::value);
            EscrowCounter x = begun(-10000, 10000, -10000);
            check.same("at the low bound", x.value(), -10000);
            check.same("a refused change", x.decrease(0, 1), false);
            check.same("is none", x.value(), -10000);
        });
        edges.promise(18, "Returns the value that a site knows: the start value plus the increases minus the decreases "
                + "in the records that it has", check -> {
            EscrowCounter x = Scenes.spread(3);
            x.increase(1, 999);
            x.decrease(2, 900);
            x.decrease(0, 3);
            Steps.tell(x, 1, 0);
            check.same("its own record and one copy", x.known(0), 996);
            check.same("its own record alone", x.known(2), -900);
        });
        edges.promise(18, "Returns that value",
                check -> check.idle("of a new object", () -> new EscrowCounter(2), 50, x -> x.known(1)));
        knowledge(edges);
    }

    private static void knowledge(Edges edges) {
        edges.promise(22, "Returns the demand of a site as a site knows it", check -> {
            EscrowCounter x = new EscrowCounter(2);
            for (int i = 0; i < 101; i++) {
                x.decrease(1, 999);
            }
            check.same("not known yet", x.demand(0, 1, 1), 0);
            Steps.tell(x, 1, 0);
            check.same("the greatest demand", x.demand(0, 1, 1), 100000);
            check.same("of the other kind", x.demand(0, 1, 0), 0);
        });
        edges.promise(22, "Returns the demand",
                check -> check.idle("lively", Scenes::lively, 5, x -> x.demand(2, 1, 0)));
        edges.promise(23, "Returns the version of a record as a site has it", check -> {
            EscrowCounter x = new EscrowCounter(2);
            x.increase(1, 1);
            check.same("its own", x.version(1, 1), 1);
            check.same("a copy", x.version(0, 1), 0);
        });
        edges.promise(23, "Returns the version",
                check -> check.idle("lively", Scenes::lively, 2, x -> x.version(2, 0)));
        edges.promise(24, "Returns the time of a copy", check -> {
            EscrowCounter x = new EscrowCounter(2);
            x.pass(3);
            check.same("of the beginning", x.copyTime(0, 1), 0);
            Steps.tell(x, 1, 0);
            x.pass(1);
            check.same("of the message", x.copyTime(0, 1), 3);
        });
        edges.promise(24, "Returns its time", check -> check.idle("lively", Scenes::lively, 2, x -> x.copyTime(2, 0)));
    }
}
