import java.util.function.Supplier;

/**
 * The range of every argument: its least and its greatest value are taken, the ones beside them and the ends of
 * int are not, and then nothing is changed.
 */
final class ArgumentEdges {
    private static final String NO_SITE = "IndexOutOfBoundsException if there is no such site";
    private static final String NO_KIND = "kind is not 0 or 1";
    private static final String NO_MESSAGE = "IndexOutOfBoundsException if there is no such message";
    private static final String BAD_AMOUNT = "amount is out of its range";
    private static final String KIND = "kind: 0 or 1";
    private static final String SITE = "site: the site";

    private interface Call {
        long of(EscrowCounter x, int argument);
    }

    private final Edges edges;

    private ArgumentEdges(Edges edges) {
        this.edges = edges;
    }

    static void all(Edges edges) {
        ArgumentEdges each = new ArgumentEdges(edges);
        each.ofBegin();
        each.ofChanges();
        each.ofTransfer();
        each.ofLend();
        each.ofRebalanceAndPass();
        each.ofMessages();
        each.ofRights();
        each.ofCopies();
        each.ofLoanHelpersAndType();
    }

    private void ofBegin() {
        number(3, "low: the low bound, -10000 to 10000", "if an argument is out of its range",
                -10000, 10000, (x, low) -> x.begin(low, 10000, 10000));
        number(3, "high: the high bound, low to 10000", "if an argument is out of its range",
                -5, 10000, (x, high) -> x.begin(-5, high, -5));
        number(3, "start: the start value, low to high", "if an argument is out of its range",
                -5, 7, (x, start) -> x.begin(-5, 7, start));
    }

    private void ofChanges() {
        site(4, SITE, (x, site) -> x.increase(site, 1) ? 1 : 0);
        number(4, "amount: 1 to 999", BAD_AMOUNT, 1, 999, (x, amount) -> x.increase(1, amount) ? 1 : 0);
        site(5, SITE, (x, site) -> x.decrease(site, 1) ? 1 : 0);
        number(5, "amount: 1 to 999", BAD_AMOUNT, 1, 999, (x, amount) -> x.decrease(1, amount) ? 1 : 0);
    }

    private void ofTransfer() {
        kind(6, (x, kind) -> x.transfer(kind, 0, 1, 1));
        site(6, "from: the site that has them", (x, from) -> x.transfer(0, from, from == 0 ? 1 : 0, 1));
        site(6, "to: the site that gets them", (x, to) -> x.transfer(0, to == 0 ? 1 : 0, to, 1));
        number(6, "amount: 1 to 999", BAD_AMOUNT, 1, 999, (x, amount) -> x.transfer(1, 1, 0, amount));
    }

    private void ofLend() {
        kind(7, (x, kind) -> x.lend(kind, 0, 1, 1, 1));
        site(7, "from: the lender", (x, from) -> x.lend(0, from, from == 0 ? 1 : 0, 1, 1));
        site(7, "to: the borrower", (x, to) -> x.lend(0, to == 0 ? 1 : 0, to, 1, 1));
        number(7, "amount: 1 to 999", "amount or duration is out of its range",
                1, 999, (x, amount) -> x.lend(0, 0, 1, amount, 1));
        number(7, "duration: the end minus the time, 1 to 1000", "duration is out of its range",
                1, 1000, (x, duration) -> x.lend(0, 0, 1, 1, duration));
    }

    private void ofRebalanceAndPass() {
        site(8, SITE, (x, site) -> x.rebalance(site, 0));
        kind(8, (x, kind) -> x.rebalance(0, kind));
        number(9, "amount: 1 to 1000", BAD_AMOUNT, 1, 1000, EscrowCounter::pass);
    }

    private void ofMessages() {
        site(10, "from: the sender", (x, from) -> x.send(from, from == 0 ? 1 : 0));
        site(10, "to: the receiver", (x, to) -> x.send(to == 0 ? 1 : 0, to));
        index(11, "message: its number", NO_MESSAGE, 2, EscrowCounter::deliver);
        index(12, "message: its number", NO_MESSAGE, 2, EscrowCounter::lose);
        index(13, "message: its number", NO_MESSAGE, 2, EscrowCounter::repeat);
        index(15, "message: its number", NO_MESSAGE, 2, (x, message) -> x.message(message, 0));
        index(15, "what: 0 its sender, 1 its receiver, 2 the time at which it was sent",
                "what is out of its range", 3, (x, what) -> x.message(0, what));
    }

    private void ofRights() {
        site(18, SITE, EscrowCounter::known);
        site(19, SITE, (x, site) -> x.own(site, 0));
        kind(19, (x, kind) -> x.own(0, kind));
        site(20, SITE, (x, site) -> x.available(site, 0));
        kind(20, (x, kind) -> x.available(0, kind));
        kind(21, EscrowCounter::dormant);
    }

    private void ofCopies() {
        site(22, "site: the site that knows it", (x, site) -> x.demand(site, 0, 0));
        site(22, "of: the site whose demand it is", (x, of) -> x.demand(0, of, 0));
        kind(22, (x, kind) -> x.demand(0, 0, kind));
        site(23, "site: the site that has it", (x, site) -> x.version(site, 0));
        site(23, "of: the site whose record it is", (x, of) -> x.version(0, of));
        site(24, "site: the site that has it", (x, site) -> x.copyTime(site, 0));
        site(24, "of: the site whose record it is", (x, of) -> x.copyTime(0, of));
    }

    private void ofLoanHelpersAndType() {
        index(26, "loan: its number", "IndexOutOfBoundsException if there is no such loan",
                2, (x, loan) -> x.loan(loan, 0));
        index(26, "what: 0 the lender, 1 the borrower", "what is out of its range", 8, (x, what) -> x.loan(0, what));
        site(27, SITE, (x, site) -> x.helpers(site, 0, 1));
        kind(27, (x, kind) -> x.helpers(0, kind, 1));
        number(27, "amount: 0 to 30000", BAD_AMOUNT, 0, 30000, (x, amount) -> x.helpers(0, 0, amount));
        number(28, "c: its code, 32 to 126", "c is out of its range", 32, 126, EscrowCounter::type);
    }

    /** With each number of sites, as the greatest site is another one then. */
    private void site(int promise, String argument, Call call) {
        for (int n = 2; n <= 5; n++) {
            int sites = n;
            int[] ends = {0, sites - 1};
            edges.promise(promise, argument, check -> taken(check, () -> Scenes.spread(sites), ends, call));
            edges.promise(promise, NO_SITE, check -> thrownOut(check, () -> Scenes.spread(sites), ends,
                    IndexOutOfBoundsException.class, call));
        }
    }

    private void kind(int promise, Call call) {
        index(promise, KIND, NO_KIND, 2, call);
    }

    private void index(int promise, String argument, String thrown, int count, Call call) {
        int[] ends = {0, count - 1};
        edges.promise(promise, argument, check -> taken(check, ArgumentEdges::scene, ends, call));
        edges.promise(promise, thrown, check -> thrownOut(check, ArgumentEdges::scene, ends,
                IndexOutOfBoundsException.class, call));
    }

    private void number(int promise, String argument, String thrown, int least, int greatest, Call call) {
        int[] ends = {least, greatest};
        edges.promise(promise, argument, check -> taken(check, ArgumentEdges::scene, ends, call));
        edges.promise(promise, thrown, check -> thrownOut(check, ArgumentEdges::scene, ends,
                IllegalArgumentException.class, call));
    }

    private static EscrowCounter scene() {
        return Scenes.spread(3);
    }

    private static void taken(Check check, Supplier<EscrowCounter> scene, int[] ends, Call call) {
        for (int argument : ends) {
            String got = "";
            try {
                call.of(scene.get(), argument);
            } catch (RuntimeException e) {
                got = e.toString();
            }
            check.note(got.isEmpty(), argument + " threw " + got);
        }
    }

    private static void thrownOut(Check check, Supplier<EscrowCounter> scene, int[] ends,
            Class<? extends RuntimeException> due, Call call) {
        int[] outside = {ends[0] - 1, ends[1] + 1, Integer.MIN_VALUE, Integer.MAX_VALUE};
        for (int argument : outside) {
            check.vain("argument " + argument, scene, due, x -> call.of(x, argument));
        }
    }
}
