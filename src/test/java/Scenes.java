/** Counters with a past, as many tests need them. */
final class Scenes {
    private Scenes() {
    }

    /** Some of everything: demands, transfers and loans, known and not, two messages, five states, a text. */
    static EscrowCounter lively() {
        EscrowCounter x = new EscrowCounter(3);
        x.increase(1, 5);
        Steps.tell(x, 1, 0);
        x.transfer(0, 0, 1, 4);
        x.lend(0, 0, 2, 6, 9);
        x.pass(2);
        Steps.tell(x, 0, 2);
        x.send(0, 1);
        x.send(2, 0);
        Steps.type(x, "+0:3;t4");
        return x;
    }

    /** Each site has more than 999 own rights of each kind; two loans, two messages, five states, a text. */
    static EscrowCounter spread(int sites) {
        EscrowCounter x = new EscrowCounter(sites);
        x.begin(-10000, 10000, 0);
        for (int site = 1; site < sites; site++) {
            for (int kind = 0; kind < 2; kind++) {
                refuse(x, site, kind, 5);
                x.transfer(kind, 0, site, 999);
                x.transfer(kind, 0, site, 999);
            }
            Steps.tell(x, 0, site);
        }
        x.lend(0, 0, 1, 30, 9);
        x.lend(1, 1, 0, 40, 20);
        x.pass(2);
        x.send(0, 1);
        x.send(1, 0);
        Steps.type(x, "+0:3;t4");
        return x;
    }

    /** As full as can be: 10 loans in use, transfers all around, 8 messages, 60 characters, 5 states. */
    static EscrowCounter full() {
        EscrowCounter x = new EscrowCounter(3);
        for (int loan = 0; loan < 10; loan++) {
            x.lend(loan % 2, 0, 1 + loan % 2, 1 + loan, 5 + loan);
        }
        tellAll(x);
        x.increase(1, 22);
        x.decrease(2, 28);
        x.increase(0, 7);
        for (int kind = 0; kind < 2; kind++) {
            x.transfer(kind, 0, 1, 2);
            x.transfer(kind, 0, 2, 3);
            tellAll(x);
            x.transfer(kind, 2 - kind, 0, 1);
            x.transfer(kind, 2 - kind, 1 + kind, 1);
            refuse(x, 2 - kind, kind, 99);
            tellAll(x);
        }
        for (int message = 0; message < 8; message++) {
            x.pass(1);
            x.send(message % 3, (message + 1) % 3);
        }
        Steps.type(x, "t1" + ";t1".repeat(18) + ";t10");
        return x;
    }

    /** A counter of two sites on which a number of messages from 0 to 1 are under way. */
    static EscrowCounter withMessages(int messages) {
        EscrowCounter x = new EscrowCounter(2);
        for (int i = 0; i < messages; i++) {
            x.send(0, 1);
        }
        return x;
    }

    /** A counter of two sites with loans of one right from 0 to 1, of both kinds in turn, each for a time of 5. */
    static EscrowCounter withLoans(int loans) {
        EscrowCounter x = new EscrowCounter(2);
        for (int i = 0; i < loans; i++) {
            x.lend(i % 2, 0, 1, 1, 5);
        }
        return x;
    }

    static EscrowCounter withText(String text) {
        EscrowCounter x = new EscrowCounter(2);
        Steps.type(x, text);
        return x;
    }

    /** The document bounds the time, though 512 calls cannot get there. */
    static EscrowCounter atTime(int time) {
        EscrowCounter x = new EscrowCounter(2);
        for (int left = time; left > 0; left -= 1000) {
            x.pass(Math.min(left, 1000));
        }
        return x;
    }

    /** Each site hears of each other one; the copies are of the records as they are then. */
    private static void tellAll(EscrowCounter x) {
        for (int from = 0; from < x.sites(); from++) {
            for (int to = 0; to < x.sites(); to++) {
                if (from != to) {
                    Steps.tell(x, from, to);
                }
            }
        }
    }

    private static void refuse(EscrowCounter x, int site, int kind, int amount) {
        if (kind == 0) {
            x.increase(site, amount);
        } else {
            x.decrease(site, amount);
        }
    }
}
