import java.util.Random;
import java.util.function.LongSupplier;

/**
 * Long runs of calls by a fixed seed, each answer compared with the one of the model. A run ends with the 512th
 * call, as the document leaves free what an object answers later.
 */
final class RandomRunsTest {
    private static final Check CHECK = new Check("RandomRunsTest");
    private static final int RUNS = 2000;
    private static final int CALLS = 512;
    /** What ends a run: the questions about 5 sites, 10 loans and 8 messages. */
    private static final int QUESTIONS = 167;
    private static final int[] WILD = {Integer.MIN_VALUE, Integer.MIN_VALUE + 1, -32768, -1, 65536, 1 << 30,
        Integer.MAX_VALUE - 1, Integer.MAX_VALUE};

    private final int run;
    private final Random random;
    private final EscrowCounter x;
    private final Model model;
    private final int greatestAmount;
    private final StringBuilder path = new StringBuilder();
    private int calls;
    private boolean isRight = true;

    private RandomRunsTest(int run) {
        this.run = run;
        random = new Random(run);
        int sites = random.nextInt(8) - 1;
        x = new EscrowCounter(sites);
        model = new Model(sites);
        greatestAmount = new int[] {5, 20, 60, 999}[random.nextInt(4)];
    }

    public static void main(String[] args) {
        for (int run = 0; run < RUNS; run++) {
            new RandomRunsTest(run).go();
        }
        CHECK.end();
    }

    private void go() {
        for (int steps = 1; calls < CALLS - QUESTIONS && isRight; steps++) {
            oneStep();
            if (steps % 8 == 0) {
                both("fingerprint", x::fingerprint, model::fingerprint);
                staysWithinBounds();
            }
        }
        askForAll();
    }

    private void oneStep() {
        switch (random.nextInt(40)) {
            case 0 -> begin();
            case 1, 2, 3, 4, 5, 6, 7 -> change();
            case 8, 9, 10, 11 -> transfer();
            case 12, 13, 14, 15 -> lend();
            case 16, 17 -> rebalance();
            case 18, 19, 20 -> pass();
            case 21, 22, 23, 24, 25, 26, 27 -> send();
            case 28, 29, 30, 31, 32, 33 -> message();
            case 34, 35 -> both("undo", x::undo, model::undo);
            case 36 -> script();
            default -> ask();
        }
    }

    private void begin() {
        if (random.nextInt(4) != 0) {
            return;
        }
        int reach = random.nextBoolean() ? 10000 : 60;
        int low = near(-reach, reach);
        int high = near(low, reach);
        int start = near(low, high);
        both("begin " + low + " " + high + " " + start,
                () -> x.begin(low, high, start), () -> model.begin(low, high, start));
    }

    private void change() {
        int site = site();
        int amount = amount();
        if (random.nextBoolean()) {
            both("increase " + site + " " + amount,
                    () -> x.increase(site, amount) ? 1 : 0, () -> model.increase(site, amount));
        } else {
            both("decrease " + site + " " + amount,
                    () -> x.decrease(site, amount) ? 1 : 0, () -> model.decrease(site, amount));
        }
    }

    private void transfer() {
        int kind = kind();
        int from = site();
        int to = site();
        int amount = amount();
        both("transfer " + kind + " " + from + " " + to + " " + amount,
                () -> x.transfer(kind, from, to, amount), () -> model.transfer(kind, from, to, amount));
    }

    private void lend() {
        if (model.loans() > 7 && random.nextInt(8) != 0) {
            return;
        }
        int kind = kind();
        int from = site();
        int to = site();
        int amount = amount();
        int duration = near(1, random.nextInt(6) == 0 ? 1000 : 20);
        both("lend " + kind + " " + from + " " + to + " " + amount + " " + duration,
                () -> x.lend(kind, from, to, amount, duration),
                () -> model.lend(kind, from, to, amount, duration));
    }

    private void rebalance() {
        int site = site();
        int kind = kind();
        both("rebalance " + site + " " + kind, () -> x.rebalance(site, kind), () -> model.rebalance(site, kind));
    }

    private void pass() {
        int time = near(1, random.nextInt(10) == 0 ? 1000 : 8);
        both("pass " + time, () -> x.pass(time), () -> model.pass(time));
    }

    private void send() {
        int from = site();
        int to = site();
        both("send " + from + " " + to, () -> x.send(from, to), () -> model.send(from, to));
    }

    private void message() {
        int i = random.nextInt(25) == 0 ? near(-1, 9) : random.nextInt(Math.max(1, model.messages()));
        switch (random.nextInt(8)) {
            case 0 -> both("lose " + i, () -> x.lose(i), () -> model.lose(i));
            case 1 -> both("repeat " + i, () -> x.repeat(i), () -> model.repeat(i));
            default -> both("deliver " + i, () -> x.deliver(i), () -> model.deliver(i));
        }
    }

    private void ask() {
        int a = near(-1, 10);
        int b = near(-1, 8);
        int kind = kind();
        int site = site();
        int amount = random.nextInt(5) == 0 ? near(0, 30000) : random.nextInt(120);
        switch (random.nextInt(11)) {
            case 0 -> both("loan " + a + " " + b, () -> x.loan(a, b), () -> model.loan(a, b));
            case 1 -> both("message " + a + " " + b, () -> x.message(a, b), () -> model.message(a, b));
            case 2 -> both("version " + a + " " + b, () -> x.version(a, b), () -> model.version(a, b));
            case 3 -> both("copyTime " + a + " " + b, () -> x.copyTime(a, b), () -> model.copyTime(a, b));
            case 4 -> both("demand " + site + " " + b + " " + kind,
                    () -> x.demand(site, b, kind), () -> model.demand(site, b, kind));
            case 5 -> both("own " + site + " " + kind, () -> x.own(site, kind), () -> model.own(site, kind));
            case 6 -> both("available " + site + " " + kind,
                    () -> x.available(site, kind), () -> model.available(site, kind));
            case 7 -> both("dormant " + kind, () -> x.dormant(kind), () -> model.dormant(kind));
            case 8 -> both("known " + a, () -> x.known(a), () -> model.known(a));
            case 9 -> both("value", x::value, model::value);
            default -> both("helpers " + site + " " + kind + " " + amount,
                    () -> x.helpers(site, kind, amount), () -> model.helpers(site, kind, amount));
        }
    }

    private void script() {
        StringBuilder script = new StringBuilder();
        int commands = 1 + random.nextInt(random.nextInt(4) == 0 ? 20 : 5);
        for (int i = 0; i < commands; i++) {
            script.append(i == 0 ? "" : ";").append(command());
        }
        if (random.nextInt(4) == 0) {
            spoil(script);
        }
        if (random.nextInt(8) != 0) {
            both("clearText", x::clearText, model::clearText);
        }
        for (int i = 0; i < Math.min(script.length(), 62); i++) {
            int c = random.nextInt(500) == 0 ? near(32, 126) : script.charAt(i);
            both("type " + c, () -> x.type(c), () -> model.type(c));
        }
        both("runScript", x::runScript, model::runScript);
    }

    private String command() {
        int digit = random.nextInt(30) == 0 ? random.nextInt(10) : random.nextInt(model.sites());
        int other = random.nextInt(30) == 0 ? random.nextInt(10) : random.nextInt(model.sites());
        int number = random.nextInt(30) == 0 ? random.nextInt(1000) : 1 + random.nextInt(6);
        return switch (random.nextInt(6)) {
            case 0 -> "+" + digit + ":" + number;
            case 1 -> "-" + digit + ":" + number;
            case 2 -> "u" + digit + ">" + other + ":" + number;
            case 3 -> "d" + digit + ">" + other + ":0" + number % 100;
            case 4 -> "m" + digit + ">" + other;
            default -> "t" + number;
        };
    }

    private void spoil(StringBuilder script) {
        int at = random.nextInt(script.length());
        String signs = "+-udmt:>;0123456789 ~x";
        char sign = signs.charAt(random.nextInt(signs.length()));
        switch (random.nextInt(3)) {
            case 0 -> script.setLength(at);
            case 1 -> script.setCharAt(at, sign);
            default -> script.insert(at, sign);
        }
    }

    /** A number of a range, now and then one of its ends, one just outside, or one far from all ranges. */
    private int near(int least, int greatest) {
        return switch (random.nextInt(16)) {
            case 0 -> least - (random.nextInt(3) == 0 ? 1 : 0);
            case 1 -> greatest + (random.nextInt(3) == 0 ? 1 : 0);
            case 2 -> random.nextInt(6) == 0 ? wild() : least;
            default -> least + random.nextInt(Math.max(1, greatest - least + 1));
        };
    }

    private int wild() {
        return WILD[random.nextInt(WILD.length)];
    }

    private int site() {
        return random.nextInt(60) == 0 ? near(-1, 6) : random.nextInt(model.sites());
    }

    private int kind() {
        return random.nextInt(80) == 0 ? near(-1, 2) : random.nextInt(2);
    }

    private int amount() {
        return random.nextInt(40) == 0 ? near(1, 999) : near(1, greatestAmount);
    }

    /** Makes a call of both and compares; none behind the 512th, nor behind one that is not as due. */
    private void both(String call, LongSupplier real, LongSupplier due) {
        if (calls >= CALLS || !isRight) {
            return;
        }
        calls++;
        path.append("\n    ").append(call);
        String got = outcome(real);
        String want = outcome(due);
        hold(got.equals(want), "the last of these calls " + got + ", due is " + want);
    }

    private void hold(boolean holds, String complaint) {
        isRight &= holds;
        CHECK.note(holds, holds ? "" : "run " + run + ": " + complaint + path);
    }

    private static String outcome(LongSupplier call) {
        try {
            return "answered " + call.getAsLong();
        } catch (RuntimeException e) {
            return "threw " + e.getClass().getSimpleName();
        }
    }

    /** What the document says in brackets, of the model: it answers as the class does. */
    private void staysWithinBounds() {
        hold(model.value() >= model.low() && model.value() <= model.high(), "the counter has left its bounds");
        for (int kind = 0; kind < 2; kind++) {
            hold(model.dormant(kind) >= 0, "dormant rights under 0");
            for (int site = 0; site < model.sites(); site++) {
                hold(model.own(site, kind) >= 0, "own rights under 0");
            }
        }
    }

    private void askForAll() {
        both("fingerprint", x::fingerprint, model::fingerprint);
        staysWithinBounds();
        for (int kind = 0; kind < 2; kind++) {
            int k = kind;
            both("dormant " + k, () -> x.dormant(k), () -> model.dormant(k));
            for (int site = 0; site < model.sites(); site++) {
                int s = site;
                both("own " + s + " " + k, () -> x.own(s, k), () -> model.own(s, k));
                for (int t = 0; t < model.sites(); t++) {
                    int of = t;
                    both("demand " + s + " " + of + " " + k,
                            () -> x.demand(s, of, k), () -> model.demand(s, of, k));
                }
            }
        }
        for (int loan = 0; loan < model.loans(); loan++) {
            for (int what = 0; what < 8; what++) {
                int i = loan;
                int fact = what;
                both("loan " + i + " " + fact, () -> x.loan(i, fact), () -> model.loan(i, fact));
            }
        }
        for (int message = 0; message < model.messages(); message++) {
            for (int what = 0; what < 3; what++) {
                int i = message;
                int fact = what;
                both("message " + i + " " + fact, () -> x.message(i, fact), () -> model.message(i, fact));
            }
        }
    }
}
