/**
 * A counter that is kept at several sites and never leaves its bounds.
 *
 * All rows are made in the constructor and used again: no call makes an object, but for the
 * exceptions that it throws.
 */
public final class EscrowCounter {
    private static final int FEWEST_SITES = 2;
    private static final int MOST_SITES = 5;
    private static final int KINDS = 2;
    private static final int UP = 0;
    private static final int DOWN = 1;

    private static final int FIRST_LOW = 0;
    private static final int FIRST_HIGH = 100;
    private static final int FIRST_START = 50;
    private static final int FARTHEST_BOUND = 10000;

    private static final int MOST_AMOUNT = 999;
    private static final int MOST_DURATION = 1000;
    private static final int MOST_PASSING = 1000;
    private static final int MOST_HELP = 30000;
    private static final int MOST_DEMAND = 100000;
    private static final int LAST_TIME = 1000000;
    private static final int MOST_LOANS = 10;
    private static final int MOST_MESSAGES = 8;
    private static final int MOST_STATES = 5;
    private static final int PLACES = MOST_STATES + 1;

    private static final int MESSAGE_FACTS = 3;
    private static final int LOAN_FACTS = 8;
    private static final int FIRST_MOVING_LOAN_FACT = 5;

    private static final int MOST_SIGNS = 60;
    private static final int FIRST_SIGN = 32;
    private static final int LAST_SIGN = 126;
    private static final int MOST_DIGITS = 3;
    /** The shortest command has two signs, so that no text holds more commands than this. */
    private static final int MOST_COMMANDS = MOST_SIGNS / 2;
    private static final int NO_ERROR = -1;
    private static final int NOTHING = -1;
    private static final int NOT_A_SCRIPT = -1;
    private static final int FAILED_COMMAND = -1000;

    /** What forbids a call, in the order in which the document lists the exceptions. */
    private static final int NO_FAULT = 0;
    private static final int NOT_THERE = 1;
    private static final int OUT_OF_RANGE = 2;
    private static final int NOT_NOW = 3;

    private static final long FINGERPRINT_START = 71;
    private static final long FINGERPRINT_FACTOR = 31;

    private final int siteCount;
    private final State now;
    private final History history;
    private final Script script;

    public EscrowCounter(int sites) {
        siteCount = Math.max(FEWEST_SITES, Math.min(MOST_SITES, sites));
        now = new State(siteCount);
        history = new History(siteCount);
        script = new Script();
        now.beginAnew(FIRST_LOW, FIRST_HIGH, FIRST_START);
    }

    public int sites() {
        return siteCount;
    }

    // ---- beginning

    public int begin(int low, int high, int start) throws IllegalArgumentException {
        boolean boundsFit = low >= -FARTHEST_BOUND && low <= high && high <= FARTHEST_BOUND;
        if (!boundsFit || start < low || start > high) {
            throw new IllegalArgumentException("a bound or the start value is out of its range");
        }
        int before = now.trueValue();
        now.beginAnew(low, high, start);
        history.forget();
        return before;
    }

    // ---- changing, moving rights

    public boolean increase(int site, int amount) throws IndexOutOfBoundsException, IllegalArgumentException {
        throwFor(changeFault(site, amount));
        history.add(now);
        return now.change(site, UP, amount);
    }

    public boolean decrease(int site, int amount) throws IndexOutOfBoundsException, IllegalArgumentException {
        throwFor(changeFault(site, amount));
        history.add(now);
        return now.change(site, DOWN, amount);
    }

    public int transfer(int kind, int from, int to, int amount)
            throws IndexOutOfBoundsException, IllegalArgumentException, IllegalStateException {
        throwFor(transferFault(kind, from, to, amount));
        history.add(now);
        now.give(kind, from, to, amount);
        return now.ownRights(from, kind);
    }

    public int lend(int kind, int from, int to, int amount, int duration)
            throws IndexOutOfBoundsException, IllegalArgumentException, IllegalStateException {
        throwFor(lendFault(kind, from, to, amount, duration));
        history.add(now);
        return now.makeLoan(kind, from, to, amount, duration);
    }

    public int rebalance(int site, int kind) throws IndexOutOfBoundsException {
        throwFor(siteAndKindFault(site, kind));
        history.save(now);
        int moved = now.shareOut(site, kind);
        if (moved > 0) {
            history.keep();
        }
        return moved;
    }

    public int pass(int amount) throws IllegalArgumentException, IllegalStateException {
        throwFor(passFault(amount));
        history.add(now);
        now.letPass(amount);
        return now.time;
    }

    // ---- messages

    public int send(int from, int to)
            throws IndexOutOfBoundsException, IllegalArgumentException, IllegalStateException {
        throwFor(sendFault(from, to));
        history.add(now);
        return now.post(from, to);
    }

    public int deliver(int message) throws IndexOutOfBoundsException {
        throwFor(messageFault(message));
        history.add(now);
        return now.handOver(message);
    }

    public int lose(int message) throws IndexOutOfBoundsException {
        throwFor(messageFault(message));
        history.add(now);
        now.drop(message);
        return now.messageCount;
    }

    public int repeat(int message) throws IndexOutOfBoundsException, IllegalStateException {
        throwFor(messageFault(message));
        if (now.messageCount >= MOST_MESSAGES) {
            throw new IllegalStateException("too many messages are under way");
        }
        history.add(now);
        return now.postAgain(message);
    }

    public int messages() {
        return now.messageCount;
    }

    public int message(int message, int what) throws IndexOutOfBoundsException {
        throwFor(messageFault(message));
        if (what < 0 || what >= MESSAGE_FACTS) {
            throw new IndexOutOfBoundsException("there is no such fact about a message");
        }
        return now.messages[message].fact(what);
    }

    // ---- asking

    public int time() {
        return now.time;
    }

    public int value() {
        return now.trueValue();
    }

    public int known(int site) throws IndexOutOfBoundsException {
        throwFor(siteFault(site));
        return now.valueKnownAt(site);
    }

    public int own(int site, int kind) throws IndexOutOfBoundsException {
        throwFor(siteAndKindFault(site, kind));
        return now.ownRights(site, kind);
    }

    public int available(int site, int kind) throws IndexOutOfBoundsException {
        throwFor(siteAndKindFault(site, kind));
        return now.availableRights(site, kind);
    }

    public int dormant(int kind) throws IndexOutOfBoundsException {
        if (!isKind(kind)) {
            throw new IndexOutOfBoundsException("there is no such kind");
        }
        return now.dormantRights(kind);
    }

    public int demand(int site, int of, int kind) throws IndexOutOfBoundsException {
        throwFor(siteAndKindFault(site, kind));
        throwFor(siteFault(of));
        return now.views[site].records[of].demands[kind];
    }

    public int version(int site, int of) throws IndexOutOfBoundsException {
        throwFor(siteFault(site));
        throwFor(siteFault(of));
        return now.views[site].records[of].version;
    }

    public int copyTime(int site, int of) throws IndexOutOfBoundsException {
        throwFor(siteFault(site));
        throwFor(siteFault(of));
        return now.views[site].records[of].time;
    }

    public int loans() {
        return now.loanCount;
    }

    public int loan(int loan, int what) throws IndexOutOfBoundsException {
        if (loan < 0 || loan >= now.loanCount || what < 0 || what >= LOAN_FACTS) {
            throw new IndexOutOfBoundsException("there is no such loan, or no such fact about it");
        }
        return now.loanFact(loan, what);
    }

    public int helpers(int site, int kind, int amount)
            throws IndexOutOfBoundsException, IllegalArgumentException {
        throwFor(siteAndKindFault(site, kind));
        if (amount < 0 || amount > MOST_HELP) {
            throw new IllegalArgumentException("the amount is out of its range");
        }
        return now.fewestHelpers(site, kind, amount);
    }

    // ---- scripts

    public int type(int c) throws IllegalArgumentException, IllegalStateException {
        if (c < FIRST_SIGN || c > LAST_SIGN) {
            throw new IllegalArgumentException("the code is out of its range");
        }
        if (script.length >= MOST_SIGNS) {
            throw new IllegalStateException("the text is full");
        }
        script.append(c);
        return script.length;
    }

    public int clearText() {
        int before = script.length;
        script.length = 0;
        return before;
    }

    public int runScript() {
        int error = script.read();
        if (error != NO_ERROR) {
            return NOT_A_SCRIPT - error;
        }
        history.save(now);
        for (int i = 0; i < script.count; i++) {
            if (!runCommand(script.commands[i])) {
                history.bringBackSaved(now);
                return FAILED_COMMAND - i;
            }
        }
        history.keep();
        script.length = 0;
        return script.count;
    }

    // ---- undo

    public int undo() throws IllegalStateException {
        if (history.count == 0) {
            throw new IllegalStateException("the history is empty");
        }
        history.bringBackLatest(now);
        return history.count;
    }

    public long fingerprint() {
        long print = FINGERPRINT_START;
        print = mixed(print, now.time);
        print = mixed(print, now.trueValue());
        print = mixed(print, now.loanCount);
        print = mixed(print, now.messageCount);
        for (int site = 0; site < siteCount; site++) {
            print = withSite(print, site);
        }
        for (int loan = 0; loan < now.loanCount; loan++) {
            for (int what = FIRST_MOVING_LOAN_FACT; what < LOAN_FACTS; what++) {
                print = mixed(print, now.loanFact(loan, what));
            }
        }
        return print;
    }

    private long withSite(long before, int site) {
        long print = before;
        for (int kind = 0; kind < KINDS; kind++) {
            print = mixed(print, now.ownRights(site, kind));
            print = mixed(print, now.availableRights(site, kind));
        }
        print = mixed(print, now.valueKnownAt(site));
        for (int of = 0; of < siteCount; of++) {
            print = mixed(print, now.views[site].records[of].version);
            print = mixed(print, now.views[site].records[of].time);
        }
        return print;
    }

    private static long mixed(long print, int number) {
        return FINGERPRINT_FACTOR * print + number;
    }

    // ---- the commands of a script: the same rules as the methods, without exceptions

    private boolean runCommand(Command command) {
        switch (command.letter) {
            case '+':
                return changeFault(command.site, command.number) == NO_FAULT
                        && now.change(command.site, UP, command.number);
            case '-':
                return changeFault(command.site, command.number) == NO_FAULT
                        && now.change(command.site, DOWN, command.number);
            case 'u':
                return runTransfer(UP, command);
            case 'd':
                return runTransfer(DOWN, command);
            case 'm':
                return runMessage(command);
            case 't':
                return runPass(command);
            default:
                return false;
        }
    }

    private boolean runTransfer(int kind, Command command) {
        if (transferFault(kind, command.site, command.to, command.number) != NO_FAULT) {
            return false;
        }
        now.give(kind, command.site, command.to, command.number);
        return true;
    }

    private boolean runMessage(Command command) {
        if (sendFault(command.site, command.to) != NO_FAULT) {
            return false;
        }
        now.handOver(now.post(command.site, command.to));
        return true;
    }

    private boolean runPass(Command command) {
        if (passFault(command.number) != NO_FAULT) {
            return false;
        }
        now.letPass(command.number);
        return true;
    }

    // ---- what forbids a call

    private static void throwFor(int fault) {
        if (fault == NOT_THERE) {
            throw new IndexOutOfBoundsException("there is no such site, kind or message");
        }
        if (fault == OUT_OF_RANGE) {
            throw new IllegalArgumentException("an argument is out of its range, or both sites are the same");
        }
        if (fault == NOT_NOW) {
            throw new IllegalStateException("the state does not allow it");
        }
    }

    private int changeFault(int site, int amount) {
        if (!isSite(site)) {
            return NOT_THERE;
        }
        return isAmount(amount) ? NO_FAULT : OUT_OF_RANGE;
    }

    private int transferFault(int kind, int from, int to, int amount) {
        if (!isSite(from) || !isSite(to) || !isKind(kind)) {
            return NOT_THERE;
        }
        if (from == to || !isAmount(amount)) {
            return OUT_OF_RANGE;
        }
        return now.ownRights(from, kind) < amount ? NOT_NOW : NO_FAULT;
    }

    private int lendFault(int kind, int from, int to, int amount, int duration) {
        int fault = transferFault(kind, from, to, amount);
        if (fault == NOT_THERE || fault == OUT_OF_RANGE) {
            return fault;
        }
        if (duration < 1 || duration > MOST_DURATION) {
            return OUT_OF_RANGE;
        }
        return now.loanCount >= MOST_LOANS ? NOT_NOW : fault;
    }

    private int passFault(int amount) {
        if (amount < 1 || amount > MOST_PASSING) {
            return OUT_OF_RANGE;
        }
        return now.time > LAST_TIME - amount ? NOT_NOW : NO_FAULT;
    }

    private int sendFault(int from, int to) {
        if (!isSite(from) || !isSite(to)) {
            return NOT_THERE;
        }
        if (from == to) {
            return OUT_OF_RANGE;
        }
        return now.messageCount >= MOST_MESSAGES ? NOT_NOW : NO_FAULT;
    }

    private int messageFault(int message) {
        return message >= 0 && message < now.messageCount ? NO_FAULT : NOT_THERE;
    }

    private int siteFault(int site) {
        return isSite(site) ? NO_FAULT : NOT_THERE;
    }

    private int siteAndKindFault(int site, int kind) {
        return isSite(site) && isKind(kind) ? NO_FAULT : NOT_THERE;
    }

    private boolean isSite(int site) {
        return site >= 0 && site < siteCount;
    }

    private static boolean isKind(int kind) {
        return kind == UP || kind == DOWN;
    }

    private static boolean isAmount(int amount) {
        return amount >= 1 && amount <= MOST_AMOUNT;
    }

    /** What a site has done up to some time, as the site itself or another one has it. */
    private static final class SiteRecord {
        int version;
        int time;
        /** For each kind the sum of the changes: increases, decreases. */
        final int[] changes = new int[KINDS];
        final int[] demands = new int[KINDS];
        /** The rights transferred, to each site for kind 0, then to each site for kind 1. */
        final int[] given = new int[KINDS * MOST_SITES];
        /** A bit for each loan by its number: 1 if this site has made it. */
        int lent;
        /** For each loan by its number, what this site, its borrower, has used of it. */
        final int[] used = new int[MOST_LOANS];

        void clear() {
            version = 0;
            time = 0;
            lent = 0;
            for (int kind = 0; kind < KINDS; kind++) {
                changes[kind] = 0;
                demands[kind] = 0;
            }
            for (int i = 0; i < given.length; i++) {
                given[i] = 0;
            }
            for (int loan = 0; loan < MOST_LOANS; loan++) {
                used[loan] = 0;
            }
        }

        void copyFrom(SiteRecord other) {
            version = other.version;
            time = other.time;
            lent = other.lent;
            System.arraycopy(other.changes, 0, changes, 0, KINDS);
            System.arraycopy(other.demands, 0, demands, 0, KINDS);
            System.arraycopy(other.given, 0, given, 0, KINDS * MOST_SITES);
            System.arraycopy(other.used, 0, used, 0, MOST_LOANS);
        }

        boolean hasLent(int loan) {
            return (lent >> loan & 1) == 1;
        }

        boolean isOlderThan(SiteRecord other) {
            return version < other.version || version == other.version && time < other.time;
        }

        int givenTo(int site, int kind) {
            return given[kind * MOST_SITES + site];
        }

        void give(int site, int kind, int amount) {
            given[kind * MOST_SITES + site] += amount;
            version++;
        }
    }

    /** The records of all sites as one site, or a message, has them. */
    private static final class View {
        final SiteRecord[] records;

        View(int sites) {
            records = new SiteRecord[sites];
            for (int of = 0; of < sites; of++) {
                records[of] = new SiteRecord();
            }
        }

        void clear() {
            for (int of = 0; of < records.length; of++) {
                records[of].clear();
            }
        }

        void copyFrom(View other) {
            for (int of = 0; of < records.length; of++) {
                records[of].copyFrom(other.records[of]);
            }
        }

        /** Replaces what is older than in the news, but for the record of the reader itself. */
        int learn(View news, int reader) {
            int replaced = 0;
            for (int of = 0; of < records.length; of++) {
                if (of != reader && records[of].isOlderThan(news.records[of])) {
                    records[of].copyFrom(news.records[of]);
                    replaced++;
                }
            }
            return replaced;
        }
    }

    private static final class Message {
        int from;
        int to;
        int sentAt;
        final View content;

        Message(int sites) {
            content = new View(sites);
        }

        void copyFrom(Message other) {
            from = other.from;
            to = other.to;
            sentAt = other.sentAt;
            content.copyFrom(other.content);
        }

        int fact(int what) {
            switch (what) {
                case 0:
                    return from;
                case 1:
                    return to;
                default:
                    return sentAt;
            }
        }
    }

    private static final class Loan {
        int lender;
        int borrower;
        int kind;
        int amount;
        int end;

        void copyFrom(Loan other) {
            lender = other.lender;
            borrower = other.borrower;
            kind = other.kind;
            amount = other.amount;
            end = other.end;
        }
    }

    /** All that undo brings back. The callers have tested sites, kinds, numbers and amounts. */
    private static final class State {
        final int sites;
        int low;
        int high;
        int start;
        int time;
        int loanCount;
        int messageCount;
        final View[] views;
        final Loan[] loans = new Loan[MOST_LOANS];
        final Message[] messages = new Message[MOST_MESSAGES];

        State(int siteCount) {
            sites = siteCount;
            views = new View[siteCount];
            for (int site = 0; site < siteCount; site++) {
                views[site] = new View(siteCount);
            }
            for (int i = 0; i < MOST_LOANS; i++) {
                loans[i] = new Loan();
            }
            for (int i = 0; i < MOST_MESSAGES; i++) {
                messages[i] = new Message(siteCount);
            }
        }

        void beginAnew(int newLow, int newHigh, int newStart) {
            low = newLow;
            high = newHigh;
            start = newStart;
            time = 0;
            loanCount = 0;
            messageCount = 0;
            for (int site = 0; site < sites; site++) {
                views[site].clear();
            }
        }

        void copyFrom(State other) {
            low = other.low;
            high = other.high;
            start = other.start;
            time = other.time;
            loanCount = other.loanCount;
            messageCount = other.messageCount;
            for (int site = 0; site < sites; site++) {
                views[site].copyFrom(other.views[site]);
            }
            for (int i = 0; i < loanCount; i++) {
                loans[i].copyFrom(other.loans[i]);
            }
            for (int i = 0; i < messageCount; i++) {
                messages[i].copyFrom(other.messages[i]);
            }
        }

        /** The record of a site that the site itself has. */
        SiteRecord recordOf(int site) {
            return views[site].records[site];
        }

        // -- values

        int trueValue() {
            int sum = start;
            for (int site = 0; site < sites; site++) {
                SiteRecord record = recordOf(site);
                sum += record.changes[UP] - record.changes[DOWN];
            }
            return sum;
        }

        int valueKnownAt(int site) {
            int sum = start;
            for (int of = 0; of < sites; of++) {
                SiteRecord record = views[site].records[of];
                sum += record.changes[UP] - record.changes[DOWN];
            }
            return sum;
        }

        // -- rights

        /** The rights of a kind between a value and the bound that the kind leads to. */
        int roomAt(int value, int kind) {
            return kind == UP ? high - value : value - low;
        }

        int ownRights(int site, int kind) {
            SiteRecord own = recordOf(site);
            int rights = site == 0 ? roomAt(start, kind) : 0;
            rights += own.changes[kind == UP ? DOWN : UP] - own.changes[kind];
            for (int other = 0; other < sites; other++) {
                if (other != site) {
                    rights += views[site].records[other].givenTo(site, kind) - own.givenTo(other, kind);
                }
            }
            for (int i = 0; i < loanCount; i++) {
                if (loans[i].kind == kind) {
                    rights += loanBalance(i, site);
                }
            }
            return rights;
        }

        /** What a loan adds to the own rights of a site, or takes from them. */
        private int loanBalance(int number, int site) {
            Loan loan = loans[number];
            if (loan.borrower == site) {
                return recordOf(site).used[number];
            }
            if (loan.lender != site) {
                return 0;
            }
            if (!hasComeBack(loan)) {
                return -loan.amount;
            }
            return -views[site].records[loan.borrower].used[number];
        }

        boolean hasComeBack(Loan loan) {
            return time >= loan.end && views[loan.lender].records[loan.borrower].time >= loan.end;
        }

        /** What the borrower can still use of a loan; nothing if it does not know it. */
        int restOf(int number) {
            Loan loan = loans[number];
            boolean known = views[loan.borrower].records[loan.lender].hasLent(number);
            if (!known || time >= loan.end) {
                return 0;
            }
            return loan.amount - recordOf(loan.borrower).used[number];
        }

        int availableRights(int site, int kind) {
            int rights = ownRights(site, kind);
            for (int i = 0; i < loanCount; i++) {
                if (loans[i].borrower == site && loans[i].kind == kind) {
                    rights += restOf(i);
                }
            }
            return rights;
        }

        int dormantRights(int kind) {
            int rights = roomAt(trueValue(), kind);
            for (int site = 0; site < sites; site++) {
                rights -= availableRights(site, kind);
            }
            return rights;
        }

        /** The richest sites help first: no other choice needs fewer of them. */
        int fewestHelpers(int site, int kind, int amount) {
            int missing = amount - availableRights(site, kind);
            int asked = 1 << site;
            for (int helping = 0; helping < sites; helping++) {
                if (missing <= 0) {
                    return helping;
                }
                int richest = richestOutside(asked, kind);
                if (richest == NOTHING) {
                    return NOTHING;
                }
                missing -= ownRights(richest, kind);
                asked |= 1 << richest;
            }
            return NOTHING;
        }

        private int richestOutside(int asked, int kind) {
            int richest = NOTHING;
            int most = 0;
            for (int site = 0; site < sites; site++) {
                if ((asked >> site & 1) == 0) {
                    int rights = ownRights(site, kind);
                    if (richest == NOTHING || rights > most) {
                        richest = site;
                        most = rights;
                    }
                }
            }
            return richest;
        }

        // -- changing, moving rights

        boolean change(int site, int kind, int amount) {
            SiteRecord own = recordOf(site);
            int missing = amount - availableRights(site, kind);
            own.version++;
            if (missing > 0) {
                own.demands[kind] = Math.min(MOST_DEMAND, own.demands[kind] + missing);
                return false;
            }
            useLoans(site, kind, amount);
            own.changes[kind] += amount;
            return true;
        }

        private void useLoans(int site, int kind, int amount) {
            int left = amount;
            for (int i = 0; i < loanCount && left > 0; i++) {
                int soonest = soonestLoan(site, kind);
                if (soonest == NOTHING) {
                    return;
                }
                int part = Math.min(left, restOf(soonest));
                recordOf(site).used[soonest] += part;
                left -= part;
            }
        }

        private int soonestLoan(int site, int kind) {
            int soonest = NOTHING;
            for (int i = 0; i < loanCount; i++) {
                boolean usable = loans[i].borrower == site && loans[i].kind == kind && restOf(i) > 0;
                if (usable && (soonest == NOTHING || loans[i].end < loans[soonest].end)) {
                    soonest = i;
                }
            }
            return soonest;
        }

        void give(int kind, int from, int to, int amount) {
            recordOf(from).give(to, kind, amount);
        }

        int makeLoan(int kind, int from, int to, int amount, int duration) {
            int number = loanCount;
            Loan loan = loans[number];
            loan.lender = from;
            loan.borrower = to;
            loan.kind = kind;
            loan.amount = amount;
            loan.end = time + duration;
            loanCount++;
            SiteRecord lender = recordOf(from);
            lender.lent |= 1 << number;
            lender.version++;
            return number;
        }

        /** Transfers rights to the other sites in proportion to their demands; answers how many. */
        int shareOut(int site, int kind) {
            int allDemands = 0;
            for (int of = 0; of < sites; of++) {
                allDemands += views[site].records[of].demands[kind];
            }
            if (allDemands <= 0) {
                return 0;
            }
            long rights = ownRights(site, kind);
            int moved = 0;
            for (int to = 0; to < sites; to++) {
                long share = rights * views[site].records[to].demands[kind] / allDemands;
                if (to != site && share > 0) {
                    give(kind, site, to, (int) share);
                    moved += (int) share;
                }
            }
            return moved;
        }

        void letPass(int amount) {
            time += amount;
            for (int site = 0; site < sites; site++) {
                recordOf(site).time = time;
            }
        }

        int loanFact(int number, int what) {
            Loan loan = loans[number];
            switch (what) {
                case 0:
                    return loan.lender;
                case 1:
                    return loan.borrower;
                case 2:
                    return loan.kind;
                case 3:
                    return loan.amount;
                case 4:
                    return loan.end;
                case 5:
                    return recordOf(loan.borrower).used[number];
                case 6:
                    return restOf(number);
                default:
                    return hasComeBack(loan) ? 1 : 0;
            }
        }

        // -- messages

        int post(int from, int to) {
            int number = messageCount;
            Message message = messages[number];
            message.from = from;
            message.to = to;
            message.sentAt = time;
            message.content.copyFrom(views[from]);
            messageCount++;
            return number;
        }

        int postAgain(int number) {
            int again = messageCount;
            messages[again].copyFrom(messages[number]);
            messageCount++;
            return again;
        }

        int handOver(int number) {
            Message message = messages[number];
            int replaced = views[message.to].learn(message.content, message.to);
            drop(number);
            return replaced;
        }

        void drop(int number) {
            Message gone = messages[number];
            for (int i = number; i + 1 < messageCount; i++) {
                messages[i] = messages[i + 1];
            }
            messageCount--;
            // The object that has gone out of the row serves a later message.
            messages[messageCount] = gone;
        }
    }

    /**
     * The states before the latest changes, in a ring. One place more than there can be states
     * is always free, to save a state before it is known whether it will be kept.
     */
    private static final class History {
        final State[] ring = new State[PLACES];
        int oldest;
        int count;

        History(int sites) {
            for (int i = 0; i < PLACES; i++) {
                ring[i] = new State(sites);
            }
        }

        void forget() {
            oldest = 0;
            count = 0;
        }

        void add(State state) {
            place(count).copyFrom(state);
            keep();
        }

        void save(State state) {
            place(count).copyFrom(state);
        }

        void keep() {
            if (count < MOST_STATES) {
                count++;
            } else {
                oldest = (oldest + 1) % PLACES;
            }
        }

        void bringBackSaved(State state) {
            state.copyFrom(place(count));
        }

        void bringBackLatest(State state) {
            count--;
            state.copyFrom(place(count));
        }

        private State place(int behindOldest) {
            return ring[(oldest + behindOldest) % PLACES];
        }
    }

    private static final class Command {
        int letter;
        int site;
        int to;
        int number;
    }

    /** The text, and the commands that it was last read as. */
    private static final class Script {
        final int[] signs = new int[MOST_SIGNS];
        final Command[] commands = new Command[MOST_COMMANDS];
        int length;
        int count;
        private int position;

        Script() {
            for (int i = 0; i < MOST_COMMANDS; i++) {
                commands[i] = new Command();
            }
        }

        void append(int sign) {
            signs[length] = sign;
            length++;
        }

        /** Answers the error position, or NO_ERROR if the text is a script. */
        int read() {
            position = 0;
            count = 0;
            while (count < MOST_COMMANDS) {
                if (!readCommand(commands[count])) {
                    return position;
                }
                count++;
                if (position >= length) {
                    return NO_ERROR;
                }
                if (!readSign(';')) {
                    return position;
                }
            }
            return position;
        }

        /** If it answers false, the position is that of the sign that cannot stand there. */
        private boolean readCommand(Command command) {
            if (position >= length) {
                return false;
            }
            command.letter = signs[position];
            switch (command.letter) {
                case '+':
                case '-':
                    return readSign(command.letter) && readSite(command) && readNumberBehind(':', command);
                case 'u':
                case 'd':
                    return readSign(command.letter) && readSite(command) && readSecondSite(command)
                            && readNumberBehind(':', command);
                case 'm':
                    return readSign(command.letter) && readSite(command) && readSecondSite(command);
                case 't':
                    return readNumberBehind('t', command);
                default:
                    return false;
            }
        }

        private boolean readSite(Command command) {
            if (!isDigitNext()) {
                return false;
            }
            command.site = readDigit();
            return true;
        }

        private boolean readSecondSite(Command command) {
            if (!readSign('>') || !isDigitNext()) {
                return false;
            }
            command.to = readDigit();
            return true;
        }

        private boolean readNumberBehind(int sign, Command command) {
            if (!readSign(sign)) {
                return false;
            }
            int digits = 0;
            command.number = 0;
            while (digits < MOST_DIGITS && isDigitNext()) {
                command.number = command.number * 10 + readDigit();
                digits++;
            }
            return digits > 0;
        }

        private boolean readSign(int sign) {
            if (position >= length || signs[position] != sign) {
                return false;
            }
            position++;
            return true;
        }

        private boolean isDigitNext() {
            return position < length && signs[position] >= '0' && signs[position] <= '9';
        }

        private int readDigit() {
            int digit = signs[position] - '0';
            position++;
            return digit;
        }
    }
}
