/** Promise 32: fingerprint. */
final class FingerprintTest {
    private static final Check CHECK = new Check("FingerprintTest");

    public static void main(String[] args) {
        ofANewObject();
        byTheRule();
        CHECK.end();
    }

    private static void ofANewObject() {
        long due = 71;
        int[] numbers = {0, 50, 0, 0, 50, 50, 50, 50, 50, 0, 0, 0, 0, 0, 0, 0, 0, 50, 0, 0, 0, 0};
        for (int number : numbers) {
            due = 31 * due + number;
        }
        CHECK.same("fingerprint of a new object", new EscrowCounter(2).fingerprint(), due);
    }

    private static void byTheRule() {
        EscrowCounter x = new EscrowCounter(4);
        x.begin(-40, 60, -5);
        CHECK.same("after begin", x.fingerprint(), due(x));
        x.lend(0, 0, 3, 9, 3);
        x.lend(1, 0, 3, 8, 2);
        x.send(0, 3);
        CHECK.same("with loans and a message", x.fingerprint(), due(x));
        x.deliver(0);
        x.increase(3, 4);
        x.pass(2);
        x.increase(1, 4);
        Steps.tell(x, 3, 0);
        CHECK.same("with time and a loan that came back", x.fingerprint(), due(x));
        long before = x.fingerprint();
        x.type('t');
        CHECK.same("the text does not count", x.fingerprint(), before);
        x.pass(1);
        CHECK.note(x.fingerprint() != before, "the time counts");
    }

    private static long due(EscrowCounter x) {
        long f = 71;
        f = 31 * f + x.time();
        f = 31 * f + x.value();
        f = 31 * f + x.loans();
        f = 31 * f + x.messages();
        for (int s = 0; s < x.sites(); s++) {
            for (int kind = 0; kind < 2; kind++) {
                f = 31 * f + x.own(s, kind);
                f = 31 * f + x.available(s, kind);
            }
            f = 31 * f + x.known(s);
            for (int t = 0; t < x.sites(); t++) {
                f = 31 * f + x.version(s, t);
                f = 31 * f + x.copyTime(s, t);
            }
        }
        for (int loan = 0; loan < x.loans(); loan++) {
            for (int what = 5; what <= 7; what++) {
                f = 31 * f + x.loan(loan, what);
            }
        }
        return f;
    }
}
