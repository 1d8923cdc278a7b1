/** Promise 27: helpers. */
final class HelpersTest {
    private static final Check CHECK = new Check("HelpersTest");

    public static void main(String[] args) {
        fewestSites();
        availableForTheSiteOwnForTheOthers();
        wrongInputs();
        CHECK.end();
    }

    private static void fewestSites() {
        EscrowCounter x = new EscrowCounter(5);
        x.transfer(0, 0, 1, 5);
        x.transfer(0, 0, 2, 20);
        x.transfer(0, 0, 3, 10);
        CHECK.same("what is under way helps nobody", x.helpers(4, 0, 16), -1);
        for (int site = 1; site < 5; site++) {
            Steps.tell(x, 0, site);
        }
        CHECK.same("nothing is needed", x.helpers(4, 0, 0), 0);
        CHECK.same("the richest is enough", x.helpers(4, 0, 20), 1);
        CHECK.same("two of them", x.helpers(4, 0, 21), 2);
        CHECK.same("just two", x.helpers(4, 0, 35), 2);
        CHECK.same("three", x.helpers(4, 0, 36), 3);
        CHECK.same("just three", x.helpers(4, 0, 45), 3);
        CHECK.same("all four", x.helpers(4, 0, 50), 4);
        CHECK.same("not enough", x.helpers(4, 0, 51), -1);
        CHECK.same("its own are enough", x.helpers(2, 0, 20), 0);
        CHECK.same("one more than its own", x.helpers(2, 0, 21), 1);
        CHECK.same("of the other kind", x.helpers(2, 1, 50), 1);
        CHECK.same("the greatest amount", x.helpers(0, 1, 30000), -1);
        CHECK.same("a site is not its own helper", x.helpers(0, 0, 16), 1);
        CHECK.same("nor beside all others", x.helpers(2, 0, 51), -1);
        CHECK.same("asking changes nothing", x.version(4, 4), 0);
    }

    private static void availableForTheSiteOwnForTheOthers() {
        EscrowCounter x = new EscrowCounter(3);
        x.lend(1, 0, 1, 30, 10);
        Steps.tell(x, 0, 1);
        CHECK.same("a loan counts for the borrower", x.helpers(1, 1, 30), 0);
        CHECK.same("the lender helps with what is left", x.helpers(1, 1, 50), 1);
        CHECK.same("a loan does not count for another site", x.helpers(2, 1, 21), -1);
        CHECK.same("own rights do", x.helpers(2, 1, 20), 1);
    }

    private static void wrongInputs() {
        EscrowCounter x = new EscrowCounter(2);
        CHECK.noSuch("site -1", x, () -> x.helpers(-1, 0, 0));
        CHECK.noSuch("site 2", x, () -> x.helpers(2, 0, 0));
        CHECK.noSuch("kind -1", x, () -> x.helpers(0, -1, 0));
        CHECK.noSuch("kind 2", x, () -> x.helpers(0, 2, 0));
        CHECK.noSuch("a missing site is listed first", x, () -> x.helpers(2, 0, -1));
        CHECK.badArgument("amount -1", x, () -> x.helpers(0, 0, -1));
        CHECK.badArgument("amount 30001", x, () -> x.helpers(0, 0, 30001));
    }
}
