import java.util.Random;
import java.util.function.LongSupplier;

/** Long runs of calls by a fixed seed, each answer compared with the one of the model. */
final class RandomRunsTest {
    private static final Check CHECK = new Check("RandomRunsTest");
    private static final int RUNS = 400;
    private static final int CALLS = 512;

    private final int run;
    private final Random random;
    private final EscrowCounter x;
    private final Model model;
    private final int greatestAmount;
    private final StringBuilder path = new StringBuilder();
    private boolean isRight = true;

    private RandomRunsTest(int run) {
        this.run = run;
        random = new Random(run);
        int sites = random.nextInt(8) - 1;
        x = new EscrowCounter(sites);
        model = new Model(sites);
        greatestAmount = new int[] {5, 20, 60, 999}[random.nextInt(4)];
    }

    public static void main(String[] args) {
        for (int run = 0; run < RUNS; run++) {
            new RandomRunsTest(run).go();
        }
        CHECK.end();
    }

    private void go() {
        int calls = 0;
        while (calls < CALLS && isRight) {
            calls += oneStep();
            if (isRight && calls % 8 == 0) {
                compareAll();
            }
        }
        if (isRight) {
            compareAll();
        }
    }

    private int oneStep() {
        switch (random.nextInt(40)) {
            case 0:
                return begin();
            case 1: case 2: case 3: case 4: case 5: case 6: case 7:
                return change();
            case 8: case 9: case 10: case 11:
                return transfer();
            case 12: case 13: case 14: case 15:
                return lend();
            case 16: case 17:
                int site = site();
                int kind = kind();
                return both("rebalance " + site + " " + kind,
                        () -> x.rebalance(site, kind), () -> model.rebalance(site, kind));
            case 18: case 19: case 20:
                int time = near(1, random.nextInt(10) == 0 ? 1000 : 8);
                return both("pass " + time, () -> x.pass(time), () -> model.pass(time));
            case 21: case 22: case 23: case 24: case 25: case 26: case 27:
                int from = site();
                int to = site();
                return both("send " + from + " " + to, () -> x.send(from, to), () -> model.send(from, to));
            case 28: case 29: case 30: case 31: case 32: case 33:
                return message();
            case 34: case 35:
                return both("undo", x::undo, model::undo);
            case 36:
                return ask();
            default:
                return random.nextInt(4) == 0 ? script() : ask();
        }
    }

    private int begin() {
        if (random.nextInt(4) != 0) {
            return 0;
        }
        int reach = random.nextBoolean() ? 10000 : 60;
        int low = near(-reach, reach);
        int high = near(low, reach);
        int start = near(low, high);
        return both("begin " + low + " " + high + " " + start,
                () -> x.begin(low, high, start), () -> model.begin(low, high, start));
    }

    private int change() {
        int site = site();
        int amount = amount();
        if (random.nextBoolean()) {
            return both("increase " + site + " " + amount,
                    () -> x.increase(site, amount) ? 1 : 0, () -> model.increase(site, amount));
        }
        return both("decrease " + site + " " + amount,
                () -> x.decrease(site, amount) ? 1 : 0, () -> model.decrease(site, amount));
    }

    private int transfer() {
        int kind = kind();
        int from = site();
        int to = site();
        int amount = amount();
        return both("transfer " + kind + " " + from + " " + to + " " + amount,
                () -> x.transfer(kind, from, to, amount), () -> model.transfer(kind, from, to, amount));
    }

    private int lend() {
        if (model.loans() > 7 && random.nextInt(8) != 0) {
            return 0;
        }
        int kind = kind();
        int from = site();
        int to = site();
        int amount = amount();
        int duration = near(1, random.nextInt(6) == 0 ? 1000 : 20);
        return both("lend " + kind + " " + from + " " + to + " " + amount + " " + duration,
                () -> x.lend(kind, from, to, amount, duration),
                () -> model.lend(kind, from, to, amount, duration));
    }

    private int message() {
        int i = random.nextInt(25) == 0 ? near(-1, 9) : random.nextInt(Math.max(1, model.messages()));
        switch (random.nextInt(8)) {
            case 0:
                return both("lose " + i, () -> x.lose(i), () -> model.lose(i));
            case 1:
                return both("repeat " + i, () -> x.repeat(i), () -> model.repeat(i));
            default:
                return both("deliver " + i, () -> x.deliver(i), () -> model.deliver(i));
        }
    }

    private int ask() {
        int a = random.nextInt(12) - 2;
        int b = random.nextInt(10) - 1;
        int kind = kind();
        int site = site();
        int amount = random.nextInt(5) == 0 ? near(0, 30000) : random.nextInt(120);
        switch (random.nextInt(10)) {
            case 0:
                return both("loan " + a + " " + b, () -> x.loan(a, b), () -> model.loan(a, b));
            case 1:
                return both("message " + a + " " + b, () -> x.message(a, b), () -> model.message(a, b));
            case 2:
                return both("version " + a + " " + b, () -> x.version(a, b), () -> model.version(a, b));
            case 3:
                return both("copyTime " + a + " " + b, () -> x.copyTime(a, b), () -> model.copyTime(a, b));
            case 4:
                return both("demand " + site + " " + b + " " + kind,
                        () -> x.demand(site, b, kind), () -> model.demand(site, b, kind));
            case 5:
                return both("own " + site + " " + kind, () -> x.own(site, kind), () -> model.own(site, kind));
            case 6:
                return both("available " + site + " " + kind,
                        () -> x.available(site, kind), () -> model.available(site, kind));
            case 7:
                return both("dormant " + kind, () -> x.dormant(kind), () -> model.dormant(kind));
            case 8:
                return both("known " + a, () -> x.known(a), () -> model.known(a));
            default:
                return both("helpers " + site + " " + kind + " " + amount,
                        () -> x.helpers(site, kind, amount), () -> model.helpers(site, kind, amount));
        }
    }

    private int script() {
        StringBuilder script = new StringBuilder();
        int commands = 1 + random.nextInt(random.nextInt(4) == 0 ? 20 : 5);
        for (int i = 0; i < commands; i++) {
            script.append(i == 0 ? "" : ";").append(command());
        }
        if (random.nextInt(4) == 0) {
            spoil(script);
        }
        int calls = 0;
        if (random.nextInt(8) != 0) {
            calls += both("clearText", x::clearText, model::clearText);
        }
        for (int i = 0; i < script.length() && isRight; i++) {
            int c = random.nextInt(500) == 0 ? near(32, 126) : script.charAt(i);
            calls += both("type " + c, () -> x.type(c), () -> model.type(c));
        }
        return isRight ? calls + both("runScript", x::runScript, model::runScript) : calls;
    }

    private String command() {
        int digit = random.nextInt(30) == 0 ? random.nextInt(10) : random.nextInt(model.sites());
        int other = random.nextInt(30) == 0 ? random.nextInt(10) : random.nextInt(model.sites());
        int number = random.nextInt(30) == 0 ? random.nextInt(1000) : 1 + random.nextInt(6);
        switch (random.nextInt(6)) {
            case 0:
                return "+" + digit + ":" + number;
            case 1:
                return "-" + digit + ":" + number;
            case 2:
                return "u" + digit + ">" + other + ":" + number;
            case 3:
                return "d" + digit + ">" + other + ":0" + number % 100;
            case 4:
                return "m" + digit + ">" + other;
            default:
                return "t" + number;
        }
    }

    private void spoil(StringBuilder script) {
        int at = random.nextInt(script.length());
        String signs = "+-udmt:>;0123456789 ~x";
        switch (random.nextInt(3)) {
            case 0:
                script.setLength(at);
                break;
            case 1:
                script.setCharAt(at, signs.charAt(random.nextInt(signs.length())));
                break;
            default:
                script.insert(at, signs.charAt(random.nextInt(signs.length())));
        }
    }

    /** A number of a range, now and then one of its ends or one just outside. */
    private int near(int least, int greatest) {
        switch (random.nextInt(16)) {
            case 0:
                return least - (random.nextInt(3) == 0 ? 1 : 0);
            case 1:
                return greatest + (random.nextInt(3) == 0 ? 1 : 0);
            default:
                return least + random.nextInt(Math.max(1, greatest - least + 1));
        }
    }

    private int site() {
        return random.nextInt(60) == 0 ? random.nextInt(9) - 2 : random.nextInt(model.sites());
    }

    private int kind() {
        return random.nextInt(80) == 0 ? random.nextInt(5) - 1 : random.nextInt(2);
    }

    private int amount() {
        return random.nextInt(40) == 0 ? near(1, 999) : near(1, greatestAmount);
    }

    private int both(String call, LongSupplier real, LongSupplier due) {
        path.append("\n    ").append(call);
        compare("the last of these calls", real, due);
        return 1;
    }

    private void compare(String what, LongSupplier real, LongSupplier due) {
        String got = outcome(real);
        String want = outcome(due);
        hold(got.equals(want), what + " " + got + ", due is " + want);
    }

    private void hold(boolean holds, String complaint) {
        isRight &= holds;
        CHECK.note(holds, holds ? "" : "run " + run + ": " + complaint + path);
    }

    private static String outcome(LongSupplier call) {
        try {
            return "answered " + call.getAsLong();
        } catch (RuntimeException e) {
            return "threw " + e.getClass().getSimpleName();
        }
    }

    private void compareAll() {
        compare("fingerprint", x::fingerprint, model::fingerprint);
        hold(x.value() >= model.low() && x.value() <= model.high(), "the counter has left its bounds");
        for (int kind = 0; kind < 2; kind++) {
            int k = kind;
            compare("dormant " + k, () -> x.dormant(k), () -> model.dormant(k));
            hold(x.dormant(k) >= 0, "dormant rights under 0");
            for (int site = 0; site < model.sites(); site++) {
                int s = site;
                hold(x.own(s, k) >= 0, "own rights under 0");
                for (int t = 0; t < model.sites(); t++) {
                    int of = t;
                    compare("demand " + s + " " + of + " " + k,
                            () -> x.demand(s, of, k), () -> model.demand(s, of, k));
                }
            }
        }
        for (int loan = 0; loan < model.loans(); loan++) {
            for (int what = 0; what < 8; what++) {
                int i = loan;
                int fact = what;
                compare("loan " + i + " " + fact, () -> x.loan(i, fact), () -> model.loan(i, fact));
            }
        }
        for (int message = 0; message < model.messages(); message++) {
            for (int what = 0; what < 3; what++) {
                int i = message;
                int fact = what;
                compare("message " + i + " " + fact, () -> x.message(i, fact), () -> model.message(i, fact));
            }
        }
    }
}
