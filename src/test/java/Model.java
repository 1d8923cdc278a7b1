import java.util.ArrayDeque;
import java.util.ArrayList;
import java.util.Arrays;
import java.util.Comparator;
import java.util.Deque;
import java.util.HashMap;
import java.util.List;
import java.util.Map;
import java.util.regex.Matcher;
import java.util.regex.Pattern;

/**
 * The document once more, told in another way, to compare the class with: a site's record is the list of
 * the deeds of the site, its version is the number of deeds, and a copy is a number of deeds and a time.
 * Every sum is added up anew from the deeds whenever it is asked for.
 */
final class Model {
    /** What a site has done; what is not of a deed's sort is 0. Uses are of loans, by their numbers. */
    private record Deed(String sort, int kind, int to, int amount, Map<Integer, Integer> uses) {
    }

    private record Copy(int version, int time) {
    }

    private record Loan(int lender, int borrower, int kind, int amount, int end) {
    }

    private record Message(int from, int to, int sent, List<Copy> copies) {
    }

    /** Lists in a world are never changed but replaced, so that an old world stays what it was. */
    private record World(int time, List<List<Deed>> deeds, List<List<Copy>> copies, List<Loan> loans,
            List<Message> messages) {
    }

    private static final Pattern COMMAND = Pattern.compile(
            "([+-])(\\d):(\\d{1,3})|([ud])(\\d)>(\\d):(\\d{1,3})|(m)(\\d)>(\\d)|(t)(\\d{1,3})");

    private final int n;
    private int low = 0;
    private int high = 100;
    private int start = 50;
    private World w;
    private final Deque<World> history = new ArrayDeque<>();
    private String text = "";

    Model(int sites) {
        n = sites < 2 ? 2 : sites > 5 ? 5 : sites;
        w = emptyWorld();
    }

    private World emptyWorld() {
        List<List<Deed>> deeds = new ArrayList<>();
        List<List<Copy>> copies = new ArrayList<>();
        for (int s = 0; s < n; s++) {
            deeds.add(List.of());
            List<Copy> row = new ArrayList<>();
            for (int t = 0; t < n; t++) {
                row.add(new Copy(0, 0));
            }
            copies.add(row);
        }
        return new World(0, deeds, copies, List.of(), List.of());
    }

    // ---- asking

    int sites() {
        return n;
    }

    int low() {
        return low;
    }

    int high() {
        return high;
    }

    int time() {
        return w.time;
    }

    int messages() {
        return w.messages.size();
    }

    int loans() {
        return w.loans.size();
    }

    int version(int site, int of) {
        site(site);
        site(of);
        return copy(site, of).version;
    }

    int copyTime(int site, int of) {
        site(site);
        site(of);
        return copy(site, of).time;
    }

    private Copy copy(int site, int of) {
        return site == of ? new Copy(w.deeds.get(of).size(), w.time) : w.copies.get(site).get(of);
    }

    private List<Deed> deeds(int site, int of) {
        return w.deeds.get(of).subList(0, copy(site, of).version);
    }

    private int sum(int site, int of, String sort, int kind, int to) {
        int sum = 0;
        for (Deed deed : deeds(site, of)) {
            if (deed.sort.equals(sort) && deed.kind == kind && deed.to == to) {
                sum += deed.amount;
            }
        }
        return sum;
    }

    private int used(int site, int of, int loan) {
        int sum = 0;
        for (Deed deed : deeds(site, of)) {
            sum += deed.uses.getOrDefault(loan, 0);
        }
        return sum;
    }

    int value() {
        int value = start;
        for (int s = 0; s < n; s++) {
            value += sum(s, s, "change", 0, 0) - sum(s, s, "change", 1, 0);
        }
        return value;
    }

    int known(int site) {
        site(site);
        int value = start;
        for (int of = 0; of < n; of++) {
            value += sum(site, of, "change", 0, 0) - sum(site, of, "change", 1, 0);
        }
        return value;
    }

    int demand(int site, int of, int kind) {
        site(site);
        site(of);
        kind(kind);
        int demand = 0;
        for (Deed deed : deeds(site, of)) {
            if (deed.sort.equals("want") && deed.kind == kind) {
                demand = Math.min(100000, demand + deed.amount);
            }
        }
        return demand;
    }

    int own(int s, int k) {
        site(s);
        kind(k);
        int rights = s != 0 ? 0 : k == 0 ? high - start : start - low;
        rights += sum(s, s, "change", 1 - k, 0) - sum(s, s, "change", k, 0);
        for (int t = 0; t < n; t++) {
            if (t != s) {
                rights += sum(s, t, "give", k, s);
                rights -= sum(s, s, "give", k, t);
            }
        }
        for (int i = 0; i < w.loans.size(); i++) {
            Loan loan = w.loans.get(i);
            if (loan.kind == k && loan.borrower == s) {
                rights += used(s, s, i);
            }
            if (loan.kind == k && loan.lender == s) {
                rights -= loan.amount;
                if (cameBack(loan)) {
                    rights += loan.amount - used(s, loan.borrower, i);
                }
            }
        }
        return rights;
    }

    private boolean cameBack(Loan loan) {
        return w.time >= loan.end && copy(loan.lender, loan.borrower).time >= loan.end;
    }

    private int rest(int i) {
        Loan loan = w.loans.get(i);
        boolean knows = false;
        for (Deed deed : deeds(loan.borrower, loan.lender)) {
            knows |= deed.sort.equals("lend") && deed.amount == i;
        }
        return knows && w.time < loan.end ? loan.amount - used(loan.borrower, loan.borrower, i) : 0;
    }

    int available(int s, int k) {
        int rights = own(s, k);
        for (int i = 0; i < w.loans.size(); i++) {
            if (w.loans.get(i).kind == k && w.loans.get(i).borrower == s) {
                rights += rest(i);
            }
        }
        return rights;
    }

    int dormant(int k) {
        kind(k);
        int rights = k == 0 ? high - value() : value() - low;
        for (int s = 0; s < n; s++) {
            rights -= available(s, k);
        }
        return rights;
    }

    int loan(int i, int what) {
        if (i < 0 || i >= w.loans.size() || what < 0 || what > 7) {
            throw new IndexOutOfBoundsException();
        }
        Loan loan = w.loans.get(i);
        int[] facts = {loan.lender, loan.borrower, loan.kind, loan.amount, loan.end,
            used(loan.borrower, loan.borrower, i), rest(i), cameBack(loan) ? 1 : 0};
        return facts[what];
    }

    int message(int i, int what) {
        if (i < 0 || i >= w.messages.size() || what < 0 || what > 2) {
            throw new IndexOutOfBoundsException();
        }
        Message message = w.messages.get(i);
        return new int[] {message.from, message.to, message.sent}[what];
    }

    /** Tries every set of other sites. */
    int helpers(int site, int kind, int amount) {
        site(site);
        kind(kind);
        range(amount, 0, 30000);
        int best = -1;
        for (int set = 0; set < 1 << n; set++) {
            if ((set >> site & 1) == 0) {
                int rights = available(site, kind);
                for (int t = 0; t < n; t++) {
                    rights += (set >> t & 1) * own(t, kind);
                }
                int size = Integer.bitCount(set);
                if (rights >= amount && (best < 0 || size < best)) {
                    best = size;
                }
            }
        }
        return best;
    }

    long fingerprint() {
        List<Integer> all = new ArrayList<>(List.of(time(), value(), loans(), messages()));
        for (int s = 0; s < n; s++) {
            all.addAll(List.of(own(s, 0), available(s, 0), own(s, 1), available(s, 1), known(s)));
            for (int t = 0; t < n; t++) {
                all.add(version(s, t));
                all.add(copyTime(s, t));
            }
        }
        for (int i = 0; i < loans(); i++) {
            all.addAll(List.of(loan(i, 5), loan(i, 6), loan(i, 7)));
        }
        long print = 71;
        for (int number : all) {
            print = 31 * print + number;
        }
        return print;
    }

    // ---- changing: every change makes a new world

    int begin(int newLow, int newHigh, int newStart) {
        range(newLow, -10000, 10000);
        range(newHigh, newLow, 10000);
        range(newStart, newLow, newHigh);
        int before = value();
        low = newLow;
        high = newHigh;
        start = newStart;
        w = emptyWorld();
        history.clear();
        return before;
    }

    int increase(int site, int amount) {
        site(site);
        range(amount, 1, 999);
        remember(w);
        return change(site, 0, amount) ? 1 : 0;
    }

    int decrease(int site, int amount) {
        site(site);
        range(amount, 1, 999);
        remember(w);
        return change(site, 1, amount) ? 1 : 0;
    }

    private boolean change(int site, int kind, int amount) {
        int missing = amount - available(site, kind);
        if (missing > 0) {
            act(site, new Deed("want", kind, 0, missing, Map.of()));
            return false;
        }
        List<Integer> order = new ArrayList<>();
        for (int i = 0; i < w.loans.size(); i++) {
            if (w.loans.get(i).borrower == site && w.loans.get(i).kind == kind) {
                order.add(i);
            }
        }
        order.sort(Comparator.<Integer>comparingInt(i -> w.loans.get(i).end).thenComparingInt(i -> i));
        Map<Integer, Integer> uses = new HashMap<>();
        int left = amount;
        for (int i : order) {
            int part = Math.min(left, rest(i));
            uses.put(i, part);
            left -= part;
        }
        act(site, new Deed("change", kind, 0, amount, uses));
        return true;
    }

    private void act(int site, Deed deed) {
        List<List<Deed>> all = new ArrayList<>(w.deeds);
        List<Deed> longer = new ArrayList<>(all.get(site));
        longer.add(deed);
        all.set(site, longer);
        w = new World(w.time, all, w.copies, w.loans, w.messages);
    }

    int transfer(int kind, int from, int to, int amount) {
        kind(kind);
        site(from);
        site(to);
        different(from, to);
        range(amount, 1, 999);
        possible(own(from, kind) >= amount);
        remember(w);
        act(from, new Deed("give", kind, to, amount, Map.of()));
        return own(from, kind);
    }

    int lend(int kind, int from, int to, int amount, int duration) {
        kind(kind);
        site(from);
        site(to);
        different(from, to);
        range(amount, 1, 999);
        range(duration, 1, 1000);
        possible(w.loans.size() < 10 && own(from, kind) >= amount);
        remember(w);
        int number = w.loans.size();
        List<Loan> more = new ArrayList<>(w.loans);
        more.add(new Loan(from, to, kind, amount, w.time + duration));
        w = new World(w.time, w.deeds, w.copies, more, w.messages);
        act(from, new Deed("lend", kind, to, number, Map.of()));
        return number;
    }

    int rebalance(int site, int kind) {
        site(site);
        kind(kind);
        World before = w;
        long all = 0;
        long[] demands = new long[n];
        for (int of = 0; of < n; of++) {
            demands[of] = demand(site, of, kind);
            all += demands[of];
        }
        long rights = own(site, kind);
        int moved = 0;
        for (int to = 0; to < n && all > 0; to++) {
            int share = (int) Math.floorDiv(rights * demands[to], all);
            if (to != site && share > 0) {
                act(site, new Deed("give", kind, to, share, Map.of()));
                moved += share;
            }
        }
        if (w != before) {
            remember(before);
        }
        return moved;
    }

    int pass(int amount) {
        range(amount, 1, 1000);
        possible(w.time + amount <= 1000000);
        remember(w);
        w = new World(w.time + amount, w.deeds, w.copies, w.loans, w.messages);
        return w.time;
    }

    int send(int from, int to) {
        site(from);
        site(to);
        different(from, to);
        possible(w.messages.size() < 8);
        remember(w);
        List<Copy> copies = new ArrayList<>();
        for (int of = 0; of < n; of++) {
            copies.add(copy(from, of));
        }
        return post(new Message(from, to, w.time, copies));
    }

    private int post(Message message) {
        List<Message> more = new ArrayList<>(w.messages);
        more.add(message);
        w = new World(w.time, w.deeds, w.copies, w.loans, more);
        return more.size() - 1;
    }

    int deliver(int i) {
        int to = message(i, 1);
        remember(w);
        Message message = w.messages.get(i);
        List<Copy> row = new ArrayList<>(w.copies.get(to));
        int replaced = 0;
        for (int of = 0; of < n; of++) {
            Copy have = row.get(of);
            Copy news = message.copies.get(of);
            boolean later = have.version == news.version ? have.time < news.time : have.version < news.version;
            if (of != to && later) {
                row.set(of, news);
                replaced++;
            }
        }
        List<List<Copy>> copies = new ArrayList<>(w.copies);
        copies.set(to, row);
        w = new World(w.time, w.deeds, copies, w.loans, w.messages);
        remove(i);
        return replaced;
    }

    private void remove(int i) {
        List<Message> fewer = new ArrayList<>(w.messages);
        fewer.remove(i);
        w = new World(w.time, w.deeds, w.copies, w.loans, fewer);
    }

    int lose(int i) {
        message(i, 0);
        remember(w);
        remove(i);
        return messages();
    }

    int repeat(int i) {
        message(i, 0);
        possible(w.messages.size() < 8);
        remember(w);
        return post(w.messages.get(i));
    }

    int undo() {
        possible(!history.isEmpty());
        w = history.removeLast();
        return history.size();
    }

    private void remember(World before) {
        history.addLast(before);
        if (history.size() > 5) {
            history.removeFirst();
        }
    }

    // ---- scripts

    int type(int c) {
        range(c, 32, 126);
        possible(text.length() < 60);
        text += (char) c;
        return text.length();
    }

    int clearText() {
        int length = text.length();
        text = "";
        return length;
    }

    int runScript() {
        if (!isScript(text)) {
            return -1 - errorPosition();
        }
        World before = w;
        Deque<World> historyBefore = new ArrayDeque<>(history);
        String[] commands = text.split(";");
        int answer = commands.length;
        for (int i = 0; i < commands.length; i++) {
            if (!run(commands[i])) {
                answer = -1000 - i;
                break;
            }
        }
        history.clear();
        history.addAll(historyBefore);
        if (answer < 0) {
            w = before;
        } else {
            remember(before);
            text = "";
        }
        return answer;
    }

    private boolean run(String command) {
        Matcher m = COMMAND.matcher(command);
        if (!m.matches()) {
            throw new IllegalStateException("the model's own fault");
        }
        try {
            if (m.group(1) != null) {
                int site = Integer.parseInt(m.group(2));
                int amount = Integer.parseInt(m.group(3));
                return (m.group(1).equals("+") ? increase(site, amount) : decrease(site, amount)) == 1;
            }
            if (m.group(4) != null) {
                transfer(m.group(4).equals("u") ? 0 : 1, Integer.parseInt(m.group(5)),
                        Integer.parseInt(m.group(6)), Integer.parseInt(m.group(7)));
            } else if (m.group(8) != null) {
                deliver(send(Integer.parseInt(m.group(9)), Integer.parseInt(m.group(10))));
            } else {
                pass(Integer.parseInt(m.group(12)));
            }
            return true;
        } catch (IndexOutOfBoundsException | IllegalArgumentException | IllegalStateException e) {
            return false;
        }
    }

    private static boolean isScript(String s) {
        return Arrays.stream(s.split(";", -1)).allMatch(part -> COMMAND.matcher(part).matches());
    }

    /** The length of the longest beginning of the text with which some script begins. */
    private int errorPosition() {
        for (int length = text.length(); length > 0; length--) {
            if (beginsAScript(text.substring(0, length))) {
                return length;
            }
        }
        return 0;
    }

    private static boolean beginsAScript(String s) {
        String[] endings = {"", "1", ":1", "0:1", ">0:1", "0>0:1", ">0", "0>0", "+0:1"};
        return Arrays.stream(endings).anyMatch(ending -> isScript(s + ending));
    }

    // ---- what throws

    private void site(int site) {
        if (site < 0 || site >= n) {
            throw new IndexOutOfBoundsException();
        }
    }

    private static void kind(int kind) {
        if (kind != 0 && kind != 1) {
            throw new IndexOutOfBoundsException();
        }
    }

    private static void range(int number, int least, int greatest) {
        if (number < least || number > greatest) {
            throw new IllegalArgumentException();
        }
    }

    private static void different(int a, int b) {
        if (a == b) {
            throw new IllegalArgumentException();
        }
    }

    private static void possible(boolean isPossible) {
        if (!isPossible) {
            throw new IllegalStateException();
        }
    }
}
