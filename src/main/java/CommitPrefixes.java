import java.util.Arrays;

public final class CommitPrefixes {
    public static final int NONE = -1;

    private static final int NOBODY = -1;
    private static final int OTHER = -2;
    private static final int NOTHING = -3;
    private static final int BELOW = -4;
    private static final int BEYOND = -5;
    private static final int WRONG = -6;
    private static final int ROOM = -7;

    private static final int SHELVES = 8;
    private static final int ROW_ROOM = 160;
    private static final int SITES = 6;
    private static final int LAST_TICK = 60;
    private static final int MESSAGES = 200;
    private static final int LOSABLE = 60;
    private static final int PART = 30;
    private static final int MOST_DRAWS = 20;

    private static final int BYTES = 0;
    private static final int SHORTS = 1;
    private static final int INTS = 2;
    private static final int LONGS = 3;

    private static final int MSG_PREPARE = 1;
    private static final int MSG_YES = 2;
    private static final int MSG_NO = 3;
    private static final int MSG_PRE = 4;
    private static final int MSG_PACK = 5;
    private static final int MSG_COMMIT = 6;
    private static final int MSG_ABORT = 7;
    private static final int MSG_ACK = 8;
    private static final int MSG_ASK = 9;

    private static final int REC_NONE = 0;
    private static final int REC_BEGIN = 1;
    private static final int REC_READY = 2;
    private static final int REC_PRE = 3;
    private static final int REC_COMMIT = 4;
    private static final int REC_ABORT = 5;
    private static final int REC_END = 6;

    private static final int INIT = 0;
    private static final int WAITING = 1;
    private static final int READY = 1;
    private static final int PRE = 2;
    private static final int COMMITTED = 3;
    private static final int ABORTED = 4;
    private static final int ENDED = 5;
    private static final int AWAY = 9;

    private static final int FATE_ARRIVED = 0;
    private static final int FATE_LOSS = 1;
    private static final int FATE_AWAY = 2;
    private static final int FATE_PENDING = 3;

    private static final Item[] ITEMS = Item.values();

    private final Shelf[] shelves = new Shelf[SHELVES];
    private final int[] refusals = new int[8];
    private final Setup setup = new Setup();
    private final Setup kept = new Setup();
    private boolean imageTaken = false;
    private final TextReader reader = new TextReader();
    private int latestFault = NONE;

    // A run is played again only when the set-up has changed since.
    private final Run run = new Run(setup);
    private boolean runStands = false;
    private final Run trial = new Run(setup);
    private boolean trialsStand = false;
    private long harmful = 0;
    private long blocking = 0;

    public CommitPrefixes() {
        for (int s = 0; s < SHELVES; s++) {
            shelves[s] = new Shelf();
        }
    }

    // ---- shelves ----

    public int row(int s, int sort, int n) {
        if (!isShelf(s)) {
            return refuse(NOBODY);
        }
        if (n < 0) {
            return refuse(BELOW);
        }
        if (sort < BYTES || sort > LONGS) {
            return refuse(WRONG);
        }
        if (n > ROW_ROOM) {
            return refuse(ROOM);
        }
        shelves[s].holdRow(sort, n);
        return 1;
    }

    public int set(int s, int i, long v) {
        int lack = rowLack(s);
        if (lack != 0) {
            return refuse(lack);
        }
        if (!shelves[s].has(i)) {
            return refuse(BEYOND);
        }
        shelves[s].keepAt(i, v);
        return 1;
    }

    public int copy(int p, int q, int i, int j, int n) {
        int lack = copyLack(p, q);
        if (lack != 0) {
            return refuse(lack);
        }
        if (n < 0) {
            return refuse(BELOW);
        }
        if (!shelves[p].hasStretch(i, n) || !shelves[q].hasStretch(j, n)) {
            return refuse(BEYOND);
        }
        System.arraycopy(shelves[p].elements, i, shelves[q].elements, j, n);
        return 1;
    }

    public long element(int s, int i) {
        if (rowLack(s) != 0 || !shelves[s].has(i)) {
            return 0;
        }
        return shelves[s].elements[i];
    }

    public int show(int s, int m) {
        if (!isShelf(s)) {
            return refuse(NOBODY);
        }
        if (m == NONE) {
            shelves[s].clear();
            return 0;
        }
        if (!current().wasSent(m)) {
            return refuse(NOBODY);
        }
        shelves[s].holdMessage(run.which[m], run.from[m], run.to[m], run.at[m]);
        return 1;
    }

    public int holds(int s) {
        if (!isShelf(s) || shelves[s].isEmpty()) {
            return NONE;
        }
        return shelves[s].isRow() ? 100 + shelves[s].sort : 200 + shelves[s].which;
    }

    public int says(int s, int as) {
        if (!isShelf(s) || as < 0 || as > 3) {
            return refuse(NOBODY);
        }
        if (shelves[s].isEmpty()) {
            return refuse(NOTHING);
        }
        if (shelves[s].isRow() || !shelves[s].isOfSort(as)) {
            return refuse(OTHER);
        }
        return shelves[s].saysAs(as);
    }

    // ---- texts ----

    public int read(int s) {
        int lack = rowLack(s);
        if (lack != 0) {
            return refuse(lack);
        }
        reader.draft.takeFrom(setup);
        int items = reader.readItems(shelves[s]);
        latestFault = reader.fault;
        if (items == NONE) {
            return refuse(WRONG);
        }
        setup.takeFrom(reader.draft);
        forgetRuns();
        return items;
    }

    public int fault() {
        return latestFault;
    }

    // ---- the set-up ----

    public int put(int what, int v) {
        if (what < 0 || what > 3) {
            return refuse(BEYOND);
        }
        if (!Setup.mayBe(what, v)) {
            return refuse(WRONG);
        }
        int was = setup.number(what);
        setup.giveNumber(what, v);
        forgetRuns();
        return was;
    }

    public int vote(int p, boolean yes) {
        if (p < 1 || p >= SITES) {
            return refuse(NOBODY);
        }
        int was = setup.votesYes(p) ? 1 : 0;
        setup.giveVote(p, yes);
        forgetRuns();
        return was;
    }

    public int lose(int m, boolean is) {
        if (m < 0 || m >= LOSABLE) {
            return refuse(NOBODY);
        }
        int was = isIn(setup.losses, m) ? 1 : 0;
        setup.giveLoss(m, is);
        forgetRuns();
        return was;
    }

    public int down(int site, int d, int u) {
        if (site < 0 || site >= SITES) {
            return refuse(NOBODY);
        }
        if (d == NONE) {
            setup.giveDown(site, NONE, NONE);
        } else if (isTick(d) && isTick(u) && d < u) {
            setup.giveDown(site, d, u);
        } else {
            return refuse(WRONG);
        }
        forgetRuns();
        return 1;
    }

    public int told(int what) {
        switch (what) {
            case 0:
            case 1:
            case 2:
            case 3:
                return setup.number(what);
            case 4:
                return setup.votes & setup.everyone();
            case 5:
                return Long.bitCount(setup.losses);
            case 6:
                return setup.sitesWithDown();
            case 7:
                return setup.seed;
            default:
                return refuse(BEYOND);
        }
    }

    public int drawn(int n) {
        if (n < 1 || n > MOST_DRAWS) {
            return refuse(WRONG);
        }
        for (int i = 0; i < n; i++) {
            setup.giveLoss(setup.draw(LOSABLE), true);
        }
        forgetRuns();
        return Long.bitCount(setup.losses);
    }

    public int seed(int v) {
        int was = setup.seed;
        setup.seed = v;
        return was;
    }

    public int image() {
        kept.takeFrom(setup);
        imageTaken = true;
        return 1;
    }

    public int restore() {
        if (!imageTaken) {
            return refuse(WRONG);
        }
        setup.takeFrom(kept);
        forgetRuns();
        return 1;
    }

    // ---- what comes of it ----

    public int state(int t, int site) {
        int lack = momentLack(t, site);
        return lack != 0 ? refuse(lack) : current().stateAt(t, site);
    }

    public int decided(int t, int site) {
        int lack = momentLack(t, site);
        return lack != 0 ? refuse(lack) : current().decisionAt(t, site);
    }

    public int records(int t, int site) {
        int lack = momentLack(t, site);
        return lack != 0 ? refuse(lack) : current().lengthAt(t, site);
    }

    public int record(int site, int i) {
        if (!isSite(site)) {
            return refuse(NOBODY);
        }
        Site held = current().sites[site];
        if (i < 0 || i >= held.length) {
            return refuse(BEYOND);
        }
        return held.log[i];
    }

    public int sent(int t) {
        return isTick(t) ? current().sentAt(t) : refuse(WRONG);
    }

    public int message(int m, int what) {
        if (!current().wasSent(m)) {
            return refuse(BEYOND);
        }
        switch (what) {
            case 0:
                return run.which[m];
            case 1:
                return run.from[m];
            case 2:
                return run.to[m];
            case 3:
                return run.at[m];
            case 4:
                return run.fate[m];
            default:
                return refuse(BEYOND);
        }
    }

    public int alike(int t) {
        if (!isTick(t)) {
            return refuse(WRONG);
        }
        return current().isAlikeAt(t) ? 1 : 0;
    }

    public int blocked() {
        return current().whoIsBlocked();
    }

    public int quiet() {
        return current().quietTick();
    }

    public int harm(int part) {
        if (part < 0 || part > 1) {
            return refuse(BEYOND);
        }
        tryLosses(current());
        return partOf(harmful, part);
    }

    public int block(int part) {
        if (part < 0 || part > 1) {
            return refuse(BEYOND);
        }
        tryLosses(current());
        return partOf(blocking, part);
    }

    public int recovery(int site, int k) {
        if (!isSite(site)) {
            return refuse(NOBODY);
        }
        Site held = current().sites[site];
        if (k < 0 || k > held.length) {
            return refuse(BEYOND);
        }
        int last = k == 0 ? REC_NONE : held.log[k - 1];
        return site == 0 ? Coordinator.stateBehind(last, setup.presumed) : Participant.stateBehind(last);
    }

    public int spared() {
        int sentNow = current().count;
        trial.play(setup.losses, !setup.presumed);
        return setup.presumed ? trial.count - sentNow : sentNow - trial.count;
    }

    public int judge(int s, int site, int n) {
        int lack = judgeLack(s, site, n);
        if (lack != 0) {
            return refuse(lack) - 10;
        }
        for (int t = 0; t < n; t++) {
            if (shelves[s].letter(t) != current().stateAt(t, site)) {
                return t;
            }
        }
        return NONE;
    }

    public int status(int what) {
        if (what > 10 && what <= 17) {
            return refusals[what - 10];
        }
        if (what != 0) {
            return NONE;
        }
        int full = 0;
        for (int s = 0; s < SHELVES; s++) {
            if (!shelves[s].isEmpty()) {
                full++;
            }
        }
        return full;
    }

    // ---- helpers ----

    private int refuse(int number) {
        refusals[-number]++;
        return number;
    }

    private static boolean isShelf(int s) {
        return s >= 0 && s < SHELVES;
    }

    private static boolean isTick(int t) {
        return t >= 0 && t <= LAST_TICK;
    }

    private boolean isSite(int site) {
        return site >= 0 && site <= setup.participants;
    }

    private static boolean isIn(long bits, int m) {
        return m >= 0 && m < LOSABLE && (bits >>> m & 1L) != 0;
    }

    private static int partOf(long bits, int part) {
        return (int) (bits >>> (part * PART)) & ((1 << PART) - 1);
    }

    // The lacks answer 0 where there is none, else the first REFUSAL that fits.

    private int rowLack(int s) {
        if (!isShelf(s)) {
            return NOBODY;
        }
        if (shelves[s].isMessage()) {
            return OTHER;
        }
        return shelves[s].isEmpty() ? NOTHING : 0;
    }

    private int copyLack(int p, int q) {
        int first = rowLack(p);
        int second = rowLack(q);
        if (first == NOBODY || second == NOBODY) {
            return NOBODY;
        }
        if (first == OTHER || second == OTHER) {
            return OTHER;
        }
        if (first == NOTHING || second == NOTHING) {
            return NOTHING;
        }
        return shelves[p].sort == shelves[q].sort ? 0 : OTHER;
    }

    private int momentLack(int t, int site) {
        if (!isSite(site)) {
            return NOBODY;
        }
        return isTick(t) ? 0 : WRONG;
    }

    private int judgeLack(int s, int site, int n) {
        if (!isSite(site)) {
            return NOBODY;
        }
        int lack = rowLack(s);
        if (lack != 0) {
            return lack;
        }
        if (n < 0) {
            return BELOW;
        }
        if (n > shelves[s].size) {
            return BEYOND;
        }
        return n > LAST_TICK + 1 ? WRONG : 0;
    }

    private void forgetRuns() {
        runStands = false;
        trialsStand = false;
    }

    private Run current() {
        if (!runStands) {
            run.play(setup.losses, setup.presumed);
            runStands = true;
        }
        return run;
    }

    private void tryLosses(Run now) {
        if (trialsStand) {
            return;
        }
        harmful = 0;
        blocking = 0;
        int tried = Math.min(now.count, LOSABLE);
        for (int m = 0; m < tried; m++) {
            if (isIn(setup.losses, m)) {
                continue;
            }
            long one = 1L << m;
            trial.play(setup.losses | one, setup.presumed);
            if (!trial.isAlikeAt(LAST_TICK)) {
                harmful |= one;
            }
            if (trial.whoIsBlocked() != 0) {
                blocking |= one;
            }
        }
        trialsStand = true;
    }

    // ---- a shelf: nothing, a row, or a message as it was when shown ----

    private static final class Shelf {
        private static final int EMPTY = 0;
        private static final int A_ROW = 1;
        private static final int A_MESSAGE = 2;

        int content = EMPTY;
        int sort = BYTES;
        int size = 0;
        final long[] elements = new long[ROW_ROOM];
        int which = 0;
        int from = 0;
        int to = 0;
        int tick = 0;

        boolean isEmpty() {
            return content == EMPTY;
        }

        boolean isRow() {
            return content == A_ROW;
        }

        boolean isMessage() {
            return content == A_MESSAGE;
        }

        void clear() {
            content = EMPTY;
            size = 0;
        }

        void holdRow(int newSort, int n) {
            content = A_ROW;
            sort = newSort;
            size = n;
            Arrays.fill(elements, 0L);
        }

        void holdMessage(int itsWhich, int itsFrom, int itsTo, int itsTick) {
            clear();
            content = A_MESSAGE;
            which = itsWhich;
            from = itsFrom;
            to = itsTo;
            tick = itsTick;
        }

        boolean has(int i) {
            return i >= 0 && i < size;
        }

        // In longs, since the sum may be too great for an int.
        boolean hasStretch(int start, int n) {
            return start >= 0 && (long) start + n <= size;
        }

        void keepAt(int i, long v) {
            if (has(i)) {
                elements[i] = lowestBits(v);
            }
        }

        private long lowestBits(long v) {
            switch (sort) {
                case BYTES:
                    return (byte) v;
                case SHORTS:
                    return (short) v;
                case INTS:
                    return (int) v;
                default:
                    return v;
            }
        }

        int letter(int i) {
            return i >= 0 && i < size ? (int) elements[i] : 0;
        }

        boolean isOfSort(int as) {
            switch (as) {
                case 1:
                    return which == MSG_YES || which == MSG_NO || which == MSG_PACK || which == MSG_ACK;
                case 2:
                    return which == MSG_COMMIT || which == MSG_ABORT;
                case 3:
                    return which == MSG_ASK;
                default:
                    return true;
            }
        }

        int saysAs(int as) {
            switch (as) {
                case 1:
                    return which == MSG_YES ? 1 : 0;
                case 2:
                    return which == MSG_COMMIT ? 1 : 2;
                case 3:
                    return tick;
                default:
                    return 10 * from + to;
            }
        }
    }

    // ---- the set-up ----

    private static final class Setup {
        private static final int ALL_YES = 0b111110;

        int participants = 3;
        int phases = 2;
        int wait = 4;
        boolean presumed = false;
        int votes = ALL_YES;
        long losses = 0;
        final int[] goesDown = new int[SITES];
        final int[] comesUp = new int[SITES];
        int seed = 1;

        Setup() {
            Arrays.fill(goesDown, NONE);
            Arrays.fill(comesUp, NONE);
        }

        void takeFrom(Setup other) {
            participants = other.participants;
            phases = other.phases;
            wait = other.wait;
            presumed = other.presumed;
            votes = other.votes;
            losses = other.losses;
            System.arraycopy(other.goesDown, 0, goesDown, 0, SITES);
            System.arraycopy(other.comesUp, 0, comesUp, 0, SITES);
            seed = other.seed;
        }

        static boolean mayBe(int what, int v) {
            switch (what) {
                case 0:
                    return v >= Item.SITES.low && v <= Item.SITES.high;
                case 1:
                    return v >= Item.PHASES.low && v <= Item.PHASES.high;
                case 2:
                    return v >= Item.WAIT.low && v <= Item.WAIT.high;
                default:
                    return v == 0 || v == 1;
            }
        }

        int number(int what) {
            switch (what) {
                case 0:
                    return participants;
                case 1:
                    return phases;
                case 2:
                    return wait;
                default:
                    return presumed ? 1 : 0;
            }
        }

        void giveNumber(int what, int v) {
            switch (what) {
                case 0:
                    participants = v;
                    break;
                case 1:
                    phases = v;
                    break;
                case 2:
                    wait = v;
                    break;
                default:
                    presumed = v == 1;
                    break;
            }
        }

        boolean votesYes(int p) {
            return (votes >> p & 1) != 0;
        }

        void giveVote(int p, boolean yes) {
            votes = yes ? votes | 1 << p : votes & ~(1 << p);
        }

        void giveLoss(int m, boolean is) {
            losses = is ? losses | 1L << m : losses & ~(1L << m);
        }

        void giveDown(int site, int d, int u) {
            if (site >= 0 && site < SITES) {
                goesDown[site] = d;
                comesUp[site] = u;
            }
        }

        int everyone() {
            return (2 << participants) - 2;
        }

        int sitesWithDown() {
            int bits = 0;
            for (int site = 0; site <= participants; site++) {
                if (goesDown[site] != NONE) {
                    bits |= 1 << site;
                }
            }
            return bits;
        }

        int draw(int below) {
            seed = seed * 1103515245 + 12345;
            return below > 0 ? (seed >>> 16) % below : 0;
        }

        void apply(Item item, int a, int b, int c) {
            switch (item) {
                case SITES:
                    participants = a;
                    break;
                case PHASES:
                    phases = a;
                    break;
                case WAIT:
                    wait = a;
                    break;
                case YES:
                case NO:
                    giveVote(a, item == Item.YES);
                    break;
                case LOSE:
                case KEEP:
                    giveLoss(a, item == Item.LOSE);
                    break;
                case DOWN:
                    giveDown(a, b, c);
                    break;
                case UP:
                    giveDown(a, NONE, NONE);
                    break;
                case PRESUME:
                case PLAIN:
                    presumed = item == Item.PRESUME;
                    break;
                default:
                    break;
            }
        }
    }

    // ---- texts: no word of an ITEM begins another's ----

    private enum Item {
        SITES("sites", 1, 1, 5),
        PHASES("phases", 1, 2, 3),
        WAIT("wait", 1, 2, 9),
        YES("yes", 1, 1, 5),
        NO("no", 1, 1, 5),
        LOSE("lose", 1, 0, 59),
        KEEP("keep", 1, 0, 59),
        DOWN("down", 3, 0, 5),
        UP("up", 1, 0, 5),
        PRESUME("presume", 0, 0, 0),
        PLAIN("plain", 0, 0, 0);

        final String letters;
        final int numbers;
        final int low;
        final int high;

        Item(String letters, int numbers, int low, int high) {
            this.letters = letters;
            this.numbers = numbers;
            this.low = low;
            this.high = high;
        }
    }

    private static final class TextReader {
        final Setup draft = new Setup();
        int fault = NONE;
        private int place = 0;
        private final int[] numbers = new int[3];

        /** How many ITEMS the draft took in; NONE with a FAULT. */
        int readItems(Shelf text) {
            fault = NONE;
            place = 0;
            // each ITEM takes letters of its own, so there are no more than letters
            for (int items = 1; items <= text.size + 1; items++) {
                if (!readItem(text)) {
                    return NONE;
                }
                if (place == text.size) {
                    return items;
                }
                if (!readSign(text, ';')) {
                    return NONE;
                }
            }
            return NONE;
        }

        private boolean readItem(Shelf text) {
            Item item = readWord(text);
            if (item == null) {
                return false;
            }
            for (int k = 0; k < item.numbers; k++) {
                if (!readSign(text, ' ') || !readNumber(text, k, lowest(item, k), highest(item, k))) {
                    return false;
                }
            }
            draft.apply(item, numbers[0], numbers[1], numbers[2]);
            return true;
        }

        // Behind the SITE of a DOWN come its two TICKS, the second above the first.

        private int lowest(Item item, int k) {
            if (k == 0) {
                return item.low;
            }
            return k == 1 ? 0 : numbers[1] + 1;
        }

        private int highest(Item item, int k) {
            return k == 0 ? item.high : LAST_TICK;
        }

        private Item readWord(Shelf text) {
            int furthest = 0;
            for (Item item : ITEMS) {
                int same = sameLetters(text, item.letters);
                if (same == item.letters.length()) {
                    place += same;
                    return item;
                }
                furthest = Math.max(furthest, same);
            }
            fault = place + furthest;
            return null;
        }

        private int sameLetters(Shelf text, String letters) {
            int same = 0;
            while (same < letters.length() && stands(text, place + same, letters.charAt(same))) {
                same++;
            }
            return same;
        }

        private boolean stands(Shelf text, int at, int letter) {
            return text.has(at) && text.letter(at) == letter;
        }

        private boolean readSign(Shelf text, int sign) {
            if (!stands(text, place, sign)) {
                fault = place;
                return false;
            }
            place++;
            return true;
        }

        private boolean readNumber(Shelf text, int k, int low, int high) {
            int start = place;
            int number = 0;
            while (place < start + 2 && isDigit(text, place)) {
                number = number * 10 + text.letter(place) - '0';
                place++;
            }
            if (place == start || number < low || number > high) {
                fault = start;
                return false;
            }
            numbers[k] = number;
            return true;
        }

        private boolean isDigit(Shelf text, int at) {
            return text.has(at) && text.letter(at) >= '0' && text.letter(at) <= '9';
        }
    }

    // ---- sites ----

    private abstract static class Site {
        private static final int LOG_ROOM = 8;
        static final int NO_TIMER = LAST_TICK + 100;

        final int number;
        final int[] log = new int[LOG_ROOM];
        int length = 0;
        boolean up = true;
        int state = INIT;
        int timer = NO_TIMER;

        Site(int number) {
            this.number = number;
        }

        abstract void recover(Run run);

        abstract void receive(Run run, int which, int sender);

        abstract void timeOut(Run run);

        void startAnew() {
            length = 0;
            up = true;
            enter(INIT, NO_TIMER);
        }

        void enter(int newState, int newTimer) {
            state = newState;
            timer = newTimer;
        }

        void goAway() {
            up = false;
            enter(INIT, NO_TIMER);
        }

        void note(int what) {
            if (length < LOG_ROOM) {
                log[length] = what;
                length++;
            }
        }

        int lastRecord() {
            return length > 0 ? log[length - 1] : REC_NONE;
        }

        boolean hasNoted(int what, int upTo) {
            for (int i = 0; i < upTo && i < LOG_ROOM; i++) {
                if (log[i] == what) {
                    return true;
                }
            }
            return false;
        }
    }

    private static final class Coordinator extends Site {
        // What is counted changes with the STATE, so one set does for YES, PACK and ACK.
        private int counted = 0;

        Coordinator() {
            super(0);
        }

        static int stateBehind(int last, boolean presumed) {
            switch (last) {
                case REC_PRE:
                    return PRE;
                case REC_COMMIT:
                    return COMMITTED;
                case REC_ABORT:
                    return ABORTED;
                case REC_END:
                    return ENDED;
                default:
                    return presumed ? ENDED : ABORTED;
            }
        }

        void begin(Run run) {
            note(REC_BEGIN);
            turnTo(WAITING, run.waitEnd());
            run.send(MSG_PREPARE, number, run.everyone);
        }

        void recover(Run run) {
            switch (lastRecord()) {
                case REC_PRE:
                    turnTo(PRE, run.waitEnd());
                    run.send(MSG_PRE, number, run.everyone);
                    break;
                case REC_COMMIT:
                    turnTo(COMMITTED, run.waitEnd());
                    run.send(MSG_COMMIT, number, run.everyone);
                    break;
                case REC_ABORT:
                    turnTo(ABORTED, run.waitEnd());
                    run.send(MSG_ABORT, number, run.everyone);
                    break;
                case REC_END:
                    turnTo(ENDED, NO_TIMER);
                    break;
                default:
                    decideAbort(run);
                    break;
            }
        }

        void receive(Run run, int which, int sender) {
            switch (which) {
                case MSG_YES:
                    if (state == WAITING && allCounted(run, sender)) {
                        if (run.setup.phases == 2) {
                            decideCommit(run);
                        } else {
                            preCommit(run);
                        }
                    }
                    break;
                case MSG_NO:
                    if (state == WAITING) {
                        decideAbort(run);
                    }
                    break;
                case MSG_PACK:
                    if (state == PRE && allCounted(run, sender)) {
                        decideCommit(run);
                    }
                    break;
                case MSG_ACK:
                    if (tellsDecision() && allCounted(run, sender)) {
                        note(REC_END);
                        turnTo(ENDED, NO_TIMER);
                    }
                    break;
                case MSG_ASK:
                    if (tellsDecision() || state == ENDED) {
                        run.send(decision(), number, 1 << sender);
                    }
                    break;
                default:
                    break;
            }
        }

        void timeOut(Run run) {
            switch (state) {
                case WAITING:
                    decideAbort(run);
                    break;
                case PRE:
                    decideCommit(run);
                    break;
                case COMMITTED:
                case ABORTED:
                    timer = run.waitEnd();
                    run.send(decision(), number, run.everyone & ~counted);
                    break;
                default:
                    break;
            }
        }

        private void preCommit(Run run) {
            note(REC_PRE);
            turnTo(PRE, run.waitEnd());
            run.send(MSG_PRE, number, run.everyone);
        }

        private void decideCommit(Run run) {
            note(REC_COMMIT);
            turnTo(COMMITTED, run.waitEnd());
            run.send(MSG_COMMIT, number, run.everyone);
        }

        private void decideAbort(Run run) {
            if (run.presumed) {
                turnTo(ENDED, NO_TIMER);
            } else {
                note(REC_ABORT);
                turnTo(ABORTED, run.waitEnd());
            }
            run.send(MSG_ABORT, number, run.everyone);
        }

        private void turnTo(int newState, int newTimer) {
            state = newState;
            timer = newTimer;
            counted = 0;
        }

        private boolean allCounted(Run run, int sender) {
            counted |= 1 << sender;
            return counted == run.everyone;
        }

        private boolean tellsDecision() {
            return state == COMMITTED || state == ABORTED;
        }

        private int decision() {
            return hasNoted(REC_COMMIT, length) ? MSG_COMMIT : MSG_ABORT;
        }
    }

    private static final class Participant extends Site {
        Participant(int number) {
            super(number);
        }

        static int stateBehind(int last) {
            switch (last) {
                case REC_READY:
                    return READY;
                case REC_PRE:
                    return PRE;
                case REC_COMMIT:
                    return COMMITTED;
                default:
                    return ABORTED;
            }
        }

        void recover(Run run) {
            int last = lastRecord();
            if (last == REC_NONE) {
                note(REC_ABORT);
            }
            enter(stateBehind(last), NO_TIMER);
            if (state == READY) {
                timer = run.tick;
            } else if (state == PRE) {
                timer = run.waitEnd();
            }
        }

        void receive(Run run, int which, int sender) {
            switch (which) {
                case MSG_PREPARE:
                    if (state == INIT && run.setup.votesYes(number)) {
                        sayYes(run);
                    } else if (state == INIT) {
                        settle(MSG_ABORT);
                        run.send(MSG_NO, number, 1);
                    }
                    break;
                case MSG_PRE:
                    hearPre(run);
                    break;
                case MSG_COMMIT:
                case MSG_ABORT:
                    if (!isSettled()) {
                        settle(which);
                    }
                    if (which == MSG_COMMIT || !run.presumed) {
                        run.send(MSG_ACK, number, 1);
                    }
                    break;
                case MSG_ASK:
                    if (state == INIT) {
                        settle(MSG_ABORT);
                    }
                    if (isSettled()) {
                        run.send(state == COMMITTED ? MSG_COMMIT : MSG_ABORT, number, 1 << sender);
                    }
                    break;
                default:
                    break;
            }
        }

        void timeOut(Run run) {
            if (state == PRE) {
                settle(MSG_COMMIT);
            } else if (state == READY && run.setup.phases == 2) {
                timer = run.waitEnd();
                run.send(MSG_ASK, number, (run.everyone | 1) & ~(1 << number));
            } else if (state == READY) {
                settle(MSG_ABORT);
            }
        }

        private void sayYes(Run run) {
            note(REC_READY);
            enter(READY, run.waitEnd());
            run.send(MSG_YES, number, 1);
        }

        private void hearPre(Run run) {
            if (state == READY) {
                note(REC_PRE);
                enter(PRE, run.waitEnd());
                run.send(MSG_PACK, number, 1);
            } else if (state == PRE) {
                run.send(MSG_PACK, number, 1);
            }
        }

        private boolean isSettled() {
            return state == COMMITTED || state == ABORTED;
        }

        private void settle(int which) {
            note(which == MSG_COMMIT ? REC_COMMIT : REC_ABORT);
            enter(which == MSG_COMMIT ? COMMITTED : ABORTED, NO_TIMER);
        }
    }

    // ---- a run, played whole, with what stood behind each tick ----

    private static final class Run {
        final Setup setup;
        final Coordinator coordinator = new Coordinator();
        final Site[] sites = new Site[SITES];
        boolean presumed = false;
        private long losses = 0;
        int everyone = 0;
        int tick = 0;
        // Behind this tick nothing happens any more: what holds there holds up to the last.
        private int still = 0;

        int count = 0;
        final int[] which = new int[MESSAGES];
        final int[] from = new int[MESSAGES];
        final int[] to = new int[MESSAGES];
        final int[] at = new int[MESSAGES];
        final int[] fate = new int[MESSAGES];

        private final int[] states = new int[(LAST_TICK + 1) * SITES];
        private final int[] lengths = new int[(LAST_TICK + 1) * SITES];
        private final int[] sentBehind = new int[LAST_TICK + 1];

        Run(Setup setup) {
            this.setup = setup;
            sites[0] = coordinator;
            for (int p = 1; p < SITES; p++) {
                sites[p] = new Participant(p);
            }
        }

        void play(long lost, boolean presumes) {
            losses = lost;
            presumed = presumes;
            everyone = setup.everyone();
            count = 0;
            for (int s = 0; s < SITES; s++) {
                sites[s].startAnew();
            }
            int arrived = 0;
            boolean over = false;
            for (int t = 0; t <= LAST_TICK && !over; t++) {
                tick = t;
                int due = count;
                comeUp();
                goDown();
                deliver(arrived, due);
                endWaits();
                arrived = due;
                still = t;
                keepMoment();
                over = count == due && !isAnythingAhead();
            }
        }

        private void comeUp() {
            for (int s = 0; s <= setup.participants; s++) {
                if (setup.comesUp[s] == tick) {
                    sites[s].up = true;
                    sites[s].recover(this);
                }
            }
        }

        private void goDown() {
            for (int s = 0; s <= setup.participants; s++) {
                if (setup.goesDown[s] == tick) {
                    sites[s].goAway();
                }
            }
        }

        private void deliver(int first, int end) {
            for (int m = first; m < end; m++) {
                Site receiver = sites[to[m]];
                if (isIn(losses, m)) {
                    fate[m] = FATE_LOSS;
                } else if (!receiver.up) {
                    fate[m] = FATE_AWAY;
                } else {
                    fate[m] = FATE_ARRIVED;
                    receiver.receive(this, which[m], from[m]);
                }
            }
        }

        private void endWaits() {
            if (tick == 0 && coordinator.up) {
                coordinator.begin(this);
            }
            for (int s = 0; s <= setup.participants; s++) {
                if (sites[s].up && sites[s].timer <= tick) {
                    sites[s].timer = Site.NO_TIMER;
                    sites[s].timeOut(this);
                }
            }
        }

        private void keepMoment() {
            int start = tick * SITES;
            for (int s = 0; s <= setup.participants; s++) {
                states[start + s] = sites[s].up ? sites[s].state : AWAY;
                lengths[start + s] = sites[s].length;
            }
            sentBehind[tick] = count;
        }

        private boolean isAnythingAhead() {
            for (int s = 0; s <= setup.participants; s++) {
                if (sites[s].timer != Site.NO_TIMER || setup.comesUp[s] > tick) {
                    return true;
                }
            }
            return false;
        }

        int waitEnd() {
            return tick + setup.wait;
        }

        /** To each SITE whose bit is in receivers, by numbers. */
        void send(int what, int sender, int receivers) {
            for (int s = 0; s <= setup.participants; s++) {
                if ((receivers >> s & 1) != 0 && count < MESSAGES) {
                    which[count] = what;
                    from[count] = sender;
                    to[count] = s;
                    at[count] = tick;
                    fate[count] = FATE_PENDING;
                    count++;
                }
            }
        }

        boolean wasSent(int m) {
            return m >= 0 && m < count;
        }

        // The askers below give a TICK of 0 to 60 and a SITE of 0 to n.

        private int moment(int t, int site) {
            return Math.min(t, still) * SITES + site;
        }

        int stateAt(int t, int site) {
            return states[moment(t, site)];
        }

        int lengthAt(int t, int site) {
            return lengths[moment(t, site)];
        }

        int sentAt(int t) {
            return sentBehind[Math.min(t, still)];
        }

        int decisionAt(int t, int site) {
            int length = lengthAt(t, site);
            if (sites[site].hasNoted(REC_COMMIT, length)) {
                return 1;
            }
            if (sites[site].hasNoted(REC_ABORT, length)) {
                return 2;
            }
            return site == 0 && presumed && stateAt(t, site) == ENDED ? 2 : 0;
        }

        boolean isAlikeAt(int t) {
            int seen = 0;
            for (int s = 0; s <= setup.participants; s++) {
                seen |= decisionAt(t, s);
            }
            return seen != 3;
        }

        int whoIsBlocked() {
            int bits = 0;
            for (int p = 1; p <= setup.participants; p++) {
                int its = stateAt(LAST_TICK, p);
                if (its == READY || its == PRE) {
                    bits |= 1 << p;
                }
            }
            return bits;
        }

        int quietTick() {
            int t = still;
            while (t > 0 && isSameAsBefore(t)) {
                t--;
            }
            return t;
        }

        private boolean isSameAsBefore(int t) {
            for (int s = 0; s <= setup.participants; s++) {
                if (stateAt(t, s) != stateAt(t - 1, s) || lengthAt(t, s) != lengthAt(t - 1, s)) {
                    return false;
                }
            }
            return true;
        }
    }
}
