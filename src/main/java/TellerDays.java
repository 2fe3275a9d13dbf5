public final class TellerDays {
    public static final int NONE = -1000000, BAD = -1000001, STATE = -1000002, FULL = -1000003;

    private static final int FINDINGS = -1000010, FAULTS = -1000100;
    private static final int NULL = 1, PLACE = 2, KIND = 3, SIZE = 4, STORE = 5;
    private static final int ROWS = 8, ITEMS = 40, LANES = 3, BYTES = 0, SHORTS = 1;
    private static final int TAPE = 120, TELLERS = 4, PAPERS = 7, ACTS = 24, IMAGES = 2, TRACED = 16;
    private static final int CAREFUL = 1, BRISK = 2, ROSY = 3, YOUNG = 4, BROWN = 5, KINDS = 6;
    private static final int CARES = 9, SUMS = 30, GREATEST_DRAWING = 99, MOST_LEFT = 99;
    private static final int LAST_TURN = 999, FORETOLD = 60, WATCHED = 12;
    private static final int ASK_SIZE = 0, ASK_MARK = 1, DEEPEST_ASK = 30;

    /** The nearest KIND that each KIND is, too. */
    private static final int[] ABOVE = {NONE, 0, CAREFUL, CAREFUL, 0, YOUNG};
    /** BODIES told for each KIND; 0: none is told. */
    private static final int[] SIZE_BODY = {10, 11, 12, 0, 13, 14};
    private static final int[] MARK_BODY = {20, 21, 24, 22, 23, 0};

    private final Rows rows = new Rows();
    private final Tape tape = new Tape();
    private final Bank now = new Bank();
    private final History history = new History();
    private final Bank[] images = {new Bank(), new Bank()};
    private final Foresight foresight = new Foresight();
    private final Search search = new Search();
    private final Asker asker = new Asker();
    private int finding;

    public TellerDays() {
    }

    // ---- rows

    public int row(int row, int lane, int n) {
        if (!isRow(row) || lane < 0 || lane >= LANES || n > ITEMS) {
            return BAD;
        }
        if (n < 0) {
            return found(SIZE);
        }
        rows.make(row, lane, n);
        return fine(n);
    }

    public int set(int row, int i, int v) {
        if (!isRow(row)) {
            return BAD;
        }
        int wrong = rows.findingOf(row, i, 1);
        return wrong != 0 ? found(wrong) : fine(rows.put(row, i, v));
    }

    public int copy(int a, int i, int b, int j, int n) {
        if (!isRow(a) || !isRow(b)) {
            return BAD;
        }
        if (rows.isMissing(a) || rows.isMissing(b)) {
            return found(NULL);
        }
        if (rows.laneOf(a) != rows.laneOf(b)) {
            return found(STORE);
        }
        if (!rows.hasSpan(a, i, n) || !rows.hasSpan(b, j, n)) {
            return found(PLACE);
        }
        rows.move(a, i, b, j, n);
        return fine(n);
    }

    public int drop(int row) {
        if (!isRow(row)) {
            return BAD;
        }
        return rows.isMissing(row) ? found(NULL) : fine(rows.remove(row));
    }

    // ---- what is told

    public int feed(int letter) {
        if (letter < 0 || letter > 255) {
            return BAD;
        }
        return tape.add(letter) ? tape.size : FULL;
    }

    public int bank() {
        if (!tape.readAll()) {
            return FAULTS - tape.place;
        }
        standAs(tape.draft);
        return now.tellers;
    }

    public int fault() {
        return tape.latestFault;
    }

    public int undo() {
        if (history.size == 0) {
            return STATE;
        }
        history.goBack(now);
        search.forget();
        return history.size;
    }

    // ---- what is done

    public int serve(int n) {
        if (!now.isThere()) {
            return STATE;
        }
        if (n < 1 || n > ACTS) {
            return BAD;
        }
        if (now.turn + n > LAST_TURN) {
            return FULL;
        }
        for (int k = 0; k < n; k++) {
            beginAct();
            now.passTurn();
        }
        return now.waiting;
    }

    public int counter(int teller, int on) {
        if (!now.hasTeller(teller) || !isChoice(on)) {
            return BAD;
        }
        if (now.isOpen(teller) == (on == 1)) {
            return STATE;
        }
        beginAct();
        now.open ^= 1 << teller;
        return now.open;
    }

    public int come(int draws, int sum) {
        if (!now.isThere()) {
            return STATE;
        }
        if (!isChoice(draws) || !isSum(sum)) {
            return BAD;
        }
        if (now.waiting >= PAPERS) {
            return FULL;
        }
        beginAct();
        return now.join(draws == 1, sum);
    }

    public int dismiss() {
        if (now.waiting == 0) {
            return STATE;
        }
        beginAct();
        now.unpaid++;
        return now.leave(0);
    }

    public int swap() {
        if (now.waiting < 2) {
            return STATE;
        }
        beginAct();
        now.swapFirst();
        return now.queue[0];
    }

    public int teller(int teller, int what) {
        if (!now.hasTeller(teller)) {
            return BAD;
        }
        switch (what) {
            case 0:
                return now.days[teller];
            case 1:
                return now.care[teller];
            case 2:
                return now.left[teller];
            case 3:
                return now.isOpen(teller) ? 1 : 0;
            case 4:
                return now.served[teller];
            default:
                return BAD;
        }
    }

    public int paper(int paper, int what) {
        if (!now.knowsPaper(paper)) {
            return BAD;
        }
        switch (what) {
            case 0:
                return now.sumOf(paper);
            case 1:
                return now.isDrawing(paper) ? 1 : 0;
            case 2:
                return now.placeOf(paper);
            default:
                return BAD;
        }
    }

    public int cost(int teller, int sum) {
        return now.hasTeller(teller) && isSum(sum) ? now.costTo(teller, sum) : BAD;
    }

    public int queue(int k) {
        if (!now.isThere()) {
            return STATE;
        }
        return k < 0 ? BAD : now.paperAt(k);
    }

    // ---- foretold

    public int ahead(int teller, int n) {
        if (!now.hasTeller(teller) || !isForetold(n)) {
            return BAD;
        }
        return foresight.after(now, n).left[teller];
    }

    public int waiting(int n) {
        if (!now.isThere()) {
            return STATE;
        }
        return isForetold(n) ? foresight.after(now, n).queuedBits() : BAD;
    }

    public int server(int paper) {
        if (!now.knowsPaper(paper)) {
            return BAD;
        }
        return now.placeOf(paper) == NONE ? STATE : foresight.serverOf(now, paper);
    }

    public int holds() {
        return now.isThere() ? foresight.paidAhead(now) : STATE;
    }

    public int infant() {
        return now.isThere() ? foresight.firstInfant(now) : STATE;
    }

    public int order(int k) {
        if (!now.isThere()) {
            return STATE;
        }
        if (k < -2) {
            return BAD;
        }
        search.findOrder(now);
        if (k == -2) {
            return search.mostLeft;
        }
        return k == -1 ? search.mostPaid : search.orderAt(k);
    }

    public int share(int k) {
        if (!now.isThere()) {
            return STATE;
        }
        if (k < -1) {
            return BAD;
        }
        search.findShare(now);
        return k == -1 ? search.poorest : search.shareAt(k);
    }

    public int open(int what) {
        if (!now.isThere()) {
            return STATE;
        }
        if (!isChoice(what)) {
            return BAD;
        }
        int counters = foresight.fewestCounters(now);
        return what == 1 || counters == NONE ? counters : Integer.bitCount(counters);
    }

    public int cheap(int sum, int what) {
        if (!now.isThere()) {
            return STATE;
        }
        if (!isSum(sum) || !isChoice(what)) {
            return BAD;
        }
        int teller = now.cheapestFor(sum);
        return what == 0 ? teller : now.costTo(teller, sum);
    }

    public int most() {
        return now.isThere() ? now.greatestSum() : STATE;
    }

    public int twins(int what) {
        if (!now.isThere()) {
            return STATE;
        }
        if (!isChoice(what)) {
            return BAD;
        }
        return what == 0 ? now.twinPairs() : now.firstTwins();
    }

    public int who(int teller, int which, int other, int row, int i, int n) {
        if (!now.hasTeller(teller) || !isChoice(which) || !now.hasTeller(other)
                || !isRow(row) || !isWatched(n)) {
            return BAD;
        }
        int wrong = rows.findingOf(row, i, n);
        if (wrong != 0) {
            return found(wrong);
        }
        foresight.watch(other, rows, row, i, n);
        return fine(which == 0 ? foresight.kindsOf(now, teller) : foresight.caresOf(now, teller));
    }

    public int sums(int teller, int row, int i, int n) {
        if (!now.hasTeller(teller) || !isRow(row) || !isWatched(n)) {
            return BAD;
        }
        if (now.waiting == 0) {
            return STATE;
        }
        int wrong = rows.findingOf(row, i, n);
        if (wrong != 0) {
            return found(wrong);
        }
        foresight.watch(teller, rows, row, i, n);
        return fine(foresight.sumsOfFirst(now));
    }

    public int stayed(int teller, int row, int i, int n) {
        if (!now.hasTeller(teller) || !isRow(row) || !isWatched(n)) {
            return BAD;
        }
        int wrong = rows.findingOf(row, i, n);
        if (wrong != 0) {
            return found(wrong);
        }
        foresight.watch(teller, rows, row, i, n);
        return fine(foresight.absentPapers(now));
    }

    public long away(int p, int what) {
        if (!now.isThere()) {
            return STATE;
        }
        if (p < 0 || p > 10 || !isChoice(what)) {
            return BAD;
        }
        long above = foresight.casesAllPaid(now, p);
        long below = power(10, now.waiting);
        long common = greatestDivisor(above, below);
        if (common <= 0) {
            return NONE;
        }
        return (what == 0 ? above : below) / common;
    }

    public int drawn(int n, int seed, int what) {
        if (!now.isThere()) {
            return STATE;
        }
        if (!isForetold(n) || seed < 1 || seed > 999999 || !isChoice(what)) {
            return BAD;
        }
        Bank then = foresight.weeks(now, n, seed);
        return what == 0 ? then.unpaid - now.unpaid : then.leftTogether();
    }

    public int image(int k) {
        if (k < 0 || k >= IMAGES) {
            return BAD;
        }
        if (!now.isThere()) {
            return STATE;
        }
        images[k].takeAll(now);
        return 1;
    }

    public int restore(int k) {
        if (k < 0 || k >= IMAGES) {
            return BAD;
        }
        if (!images[k].isThere()) {
            return STATE;
        }
        standAs(images[k]);
        return 1;
    }

    // ---- asked

    public int kind(int one) {
        return now.hasTeller(one) ? now.kind[one] : BAD;
    }

    public int as(int one, int kind) {
        if (!now.hasTeller(one) || kind < 0 || kind >= KINDS) {
            return BAD;
        }
        return isKindOf(now.kind[one], kind) ? fine(one) : found(KIND);
    }

    public int ask(int one, int what) {
        if (!now.hasTeller(one) || !isChoice(what)) {
            return BAD;
        }
        return asker.begin(now, one, what);
    }

    public int trace(int i) {
        return asker.traceAt(i);
    }

    public int count(int what) {
        switch (what) {
            case 0:
                return rows.amount();
            case 1:
                return now.tellers;
            case 2:
                return now.waiting;
            case 3:
                return now.turn;
            case 4:
                return now.paid;
            case 5:
                return now.unpaid;
            case 6:
                return history.size;
            case 7:
                return tape.size;
            default:
                return BAD;
        }
    }

    public int status() {
        return finding;
    }

    // ---- within

    private int found(int number) {
        finding = number;
        return FINDINGS - number;
    }

    private int fine(int answer) {
        finding = 0;
        return answer;
    }

    private void beginAct() {
        history.keep(now);
        search.forget();
    }

    private void standAs(Bank other) {
        now.takeAll(other);
        history.clear();
        search.forget();
    }

    private static boolean isRow(int row) {
        return row >= 0 && row < ROWS;
    }

    private static boolean isChoice(int what) {
        return what == 0 || what == 1;
    }

    private static boolean isSum(int sum) {
        return sum >= 1 && sum <= SUMS;
    }

    private static boolean isForetold(int n) {
        return n >= 0 && n <= FORETOLD;
    }

    private static boolean isWatched(int n) {
        return n >= 1 && n <= WATCHED;
    }

    private static boolean isKindOf(int kind, int wanted) {
        int one = kind;
        for (int k = 0; k < KINDS && one >= 0 && one < ABOVE.length; k++) {
            if (one == wanted) {
                return true;
            }
            one = ABOVE[one];
        }
        return false;
    }

    private static long power(int base, int times) {
        long product = 1;
        for (int k = 0; k < times; k++) {
            product *= base;
        }
        return product;
    }

    private static long greatestDivisor(long a, long b) {
        long high = a;
        long low = b;
        // Numbers up to 10 to the 7th need far fewer steps than these.
        for (int k = 0; k < 100 && low != 0; k++) {
            long rest = high % low;
            high = low;
            low = rest;
        }
        return high;
    }

    /** The eight ROWS. Their ITEMS lie in one array, so that no call makes a new one. */
    private static final class Rows {
        private final int[] lane = {NONE, NONE, NONE, NONE, NONE, NONE, NONE, NONE};
        private final int[] size = new int[ROWS];
        private final int[] items = new int[ROWS * ITEMS];

        boolean isMissing(int row) {
            return !isRow(row) || lane[row] == NONE;
        }

        int laneOf(int row) {
            return isRow(row) ? lane[row] : NONE;
        }

        boolean hasSpan(int row, int i, int n) {
            return isRow(row) && i >= 0 && n >= 0 && i <= size[row] - n;
        }

        int findingOf(int row, int i, int n) {
            if (isMissing(row)) {
                return NULL;
            }
            return hasSpan(row, i, n) ? 0 : PLACE;
        }

        void make(int row, int newLane, int n) {
            if (!isRow(row) || n < 0 || n > ITEMS) {
                return;
            }
            lane[row] = newLane;
            size[row] = n;
            for (int i = 0; i < n; i++) {
                items[row * ITEMS + i] = 0;
            }
        }

        int put(int row, int i, int v) {
            if (!hasSpan(row, i, 1)) {
                return 0;
            }
            int kept = v;
            if (lane[row] == BYTES) {
                kept = (byte) v;
            } else if (lane[row] == SHORTS) {
                kept = (short) v;
            }
            items[row * ITEMS + i] = kept;
            return kept;
        }

        int itemAt(int row, int i) {
            return hasSpan(row, i, 1) ? items[row * ITEMS + i] : NONE;
        }

        void move(int a, int i, int b, int j, int n) {
            if (hasSpan(a, i, n) && hasSpan(b, j, n)) {
                System.arraycopy(items, a * ITEMS + i, items, b * ITEMS + j, n);
            }
        }

        int remove(int row) {
            if (isMissing(row)) {
                return 0;
            }
            int had = size[row];
            lane[row] = NONE;
            size[row] = 0;
            return had;
        }

        int amount() {
            int there = 0;
            for (int row = 0; row < ROWS; row++) {
                if (!isMissing(row)) {
                    there++;
                }
            }
            return there;
        }
    }

    /** THE TAPE, and how a BANK is read from it into a draft. */
    private static final class Tape {
        private static final int CANNOT_STAND = 1, NOT_AS_TOLD = 2, NO_ROOM = 3;

        private final int[] bytes = new int[TAPE];
        private final Bank draft = new Bank();
        private int size;
        private int place;
        private int fault;
        private int latestFault;

        boolean add(int letter) {
            if (size >= TAPE) {
                return false;
            }
            bytes[size] = letter;
            size++;
            return true;
        }

        /** Reads the draft and empties the tape; of a FAULT, place is where it was found. */
        boolean readAll() {
            place = 0;
            fault = 0;
            draft.clear();
            readLaw();
            readTellers();
            readPapers();
            size = 0;
            if (fault != 0) {
                latestFault = fault;
            }
            return fault == 0;
        }

        private void readLaw() {
            takeByte('b');
            draft.infancy = takeNumber(0, 20);
            takeByte(',');
            draft.week = takeNumber(1, 20);
            takeByte(';');
        }

        private void readTellers() {
            for (int t = 0; t <= TELLERS && fault == 0; t++) {
                int kind = kindOfSort(next());
                if (kind == NONE) {
                    fault = t == 0 ? CANNOT_STAND : 0;
                    return;
                }
                if (t == TELLERS) {
                    fault = NO_ROOM;
                    return;
                }
                place++;
                int days = takeNumber(0, 60);
                takeByte(',');
                int care = takeNumber(1, CARES);
                takeByte(';');
                draft.addTeller(kind, days, care);
            }
        }

        private void readPapers() {
            for (int p = 0; p <= PAPERS && fault == 0 && place < size; p++) {
                int letter = next();
                if (letter != 'd' && letter != 'p') {
                    fault = CANNOT_STAND;
                    return;
                }
                if (p == PAPERS) {
                    fault = NO_ROOM;
                    return;
                }
                place++;
                int sum = takeNumber(1, SUMS);
                takeByte(';');
                draft.join(letter == 'd', sum);
            }
        }

        private int next() {
            return byteAt(place);
        }

        private int byteAt(int i) {
            return i >= 0 && i < size && i < TAPE ? bytes[i] : NONE;
        }

        private boolean isFigure(int i) {
            int one = byteAt(i);
            return one >= '0' && one <= '9';
        }

        private void takeByte(int wanted) {
            if (fault != 0) {
                return;
            }
            if (next() == wanted) {
                place++;
            } else {
                fault = CANNOT_STAND;
            }
        }

        private int takeNumber(int least, int most) {
            if (fault != 0) {
                return 0;
            }
            int figures = 0;
            int value = 0;
            while (figures < 3 && isFigure(place + figures)) {
                value = 10 * value + byteAt(place + figures) - '0';
                figures++;
            }
            if (figures == 0 || figures > 2) {
                fault = CANNOT_STAND;
            } else if (value < least || value > most) {
                fault = NOT_AS_TOLD;
            } else {
                place += figures;
            }
            return value;
        }

        private static int kindOfSort(int letter) {
            switch (letter) {
                case 'c':
                    return CAREFUL;
                case 'k':
                    return BRISK;
                case 'o':
                    return ROSY;
                case 'y':
                    return YOUNG;
                case 'n':
                    return BROWN;
                default:
                    return NONE;
            }
        }
    }

    /** A BANK, whole; one without TELLERS is no BANK. What is foretold is tried on copies of it. */
    private static final class Bank {
        private int infancy;
        private int week;
        private int tellers;
        private int open;
        private int turn;
        private int paid;
        private int unpaid;
        private int waiting;
        private int drawings;
        private int known;
        private final int[] kind = new int[TELLERS];
        private final int[] days = new int[TELLERS];
        private final int[] care = new int[TELLERS];
        private final int[] left = new int[TELLERS];
        private final int[] served = new int[TELLERS];
        private final int[] sum = new int[PAPERS];
        private final int[] queue = new int[PAPERS];

        void clear() {
            tellers = 0;
            open = 0;
            turn = 0;
            paid = 0;
            unpaid = 0;
            waiting = 0;
            drawings = 0;
            known = 0;
        }

        void takeAll(Bank other) {
            infancy = other.infancy;
            week = other.week;
            tellers = other.tellers;
            open = other.open;
            waiting = other.waiting;
            drawings = other.drawings;
            known = other.known;
            for (int t = 0; t < TELLERS; t++) {
                kind[t] = other.kind[t];
                days[t] = other.days[t];
                care[t] = other.care[t];
                served[t] = other.served[t];
            }
            for (int p = 0; p < PAPERS; p++) {
                sum[p] = other.sum[p];
                queue[p] = other.queue[p];
            }
            takeCourse(other);
        }

        /** What serving changes, but for THE QUEUE and who served how many. */
        void takeCourse(Bank other) {
            turn = other.turn;
            paid = other.paid;
            unpaid = other.unpaid;
            for (int t = 0; t < TELLERS; t++) {
                left[t] = other.left[t];
            }
        }

        boolean isThere() {
            return tellers > 0;
        }

        boolean hasTeller(int teller) {
            return teller >= 0 && teller < tellers && teller < TELLERS;
        }

        boolean isOpen(int teller) {
            return teller >= 0 && teller < TELLERS && (open >> teller & 1) == 1;
        }

        void addTeller(int newKind, int newDays, int newCare) {
            if (tellers >= TELLERS) {
                return;
            }
            kind[tellers] = newKind;
            days[tellers] = newDays;
            care[tellers] = newCare;
            left[tellers] = newDays;
            served[tellers] = 0;
            open |= 1 << tellers;
            tellers++;
        }

        boolean knowsPaper(int paper) {
            return paper >= 0 && paper < PAPERS && (known >> paper & 1) == 1;
        }

        int sumOf(int paper) {
            return paper >= 0 && paper < PAPERS ? sum[paper] : 0;
        }

        boolean isDrawing(int paper) {
            return paper >= 0 && paper < PAPERS && (drawings >> paper & 1) == 1;
        }

        int paperAt(int place) {
            return place >= 0 && place < waiting && place < PAPERS ? queue[place] : NONE;
        }

        int placeOf(int paper) {
            for (int place = 0; place < waiting && place < PAPERS; place++) {
                if (queue[place] == paper) {
                    return place;
                }
            }
            return NONE;
        }

        int queuedBits() {
            int bits = 0;
            for (int place = 0; place < waiting && place < PAPERS; place++) {
                bits |= 1 << queue[place];
            }
            return bits;
        }

        /** A PAPER comes behind THE QUEUE: its number; NONE: there is no room. */
        int join(boolean draws, int newSum) {
            int queued = queuedBits();
            for (int paper = 0; paper < PAPERS && waiting < PAPERS; paper++) {
                if ((queued >> paper & 1) == 0) {
                    int bit = 1 << paper;
                    known |= bit;
                    drawings = draws ? drawings | bit : drawings & ~bit;
                    sum[paper] = newSum;
                    queue[waiting] = paper;
                    waiting++;
                    return paper;
                }
            }
            return NONE;
        }

        /** The PAPER at a place is in THE QUEUE no more: which; NONE: there is none. */
        int leave(int place) {
            int paper = paperAt(place);
            if (paper == NONE) {
                return NONE;
            }
            for (int k = place + 1; k < waiting && k < PAPERS; k++) {
                queue[k - 1] = queue[k];
            }
            waiting--;
            return paper;
        }

        void swapFirst() {
            if (waiting >= 2) {
                int first = queue[0];
                queue[0] = queue[1];
                queue[1] = first;
            }
        }

        int costTo(int teller, int drawing) {
            if (teller < 0 || teller >= TELLERS) {
                return 0;
            }
            int careful = drawing - care[teller] > 1 ? drawing - care[teller] : 1;
            switch (kind[teller]) {
                case BRISK:
                    return careful / 2 + 1;
                case ROSY:
                    return careful + 2;
                case YOUNG:
                    return drawing;
                case BROWN:
                    return drawing > 9 ? 9 : drawing;
                default:
                    return careful;
            }
        }

        boolean canPay(int teller, int drawing) {
            return hasTeller(teller) && left[teller] - costTo(teller, drawing) >= infancy;
        }

        private int drawerOf(int drawing) {
            int best = NONE;
            for (int t = 0; t < tellers && t < TELLERS; t++) {
                boolean richer = best == NONE || left[t] > left[best];
                if (richer && isOpen(t) && left[t] - costTo(t, drawing) >= infancy) {
                    best = t;
                }
            }
            return best;
        }

        private int poorestOpen() {
            int best = NONE;
            for (int t = 0; t < tellers && t < TELLERS; t++) {
                if (isOpen(t) && (best == NONE || left[t] < left[best])) {
                    best = t;
                }
            }
            return best;
        }

        /** A PAPER is served as told, wherever it stands: by whom; NONE: it is UNPAID. */
        int attend(int paper) {
            int by = isDrawing(paper) ? drawerOf(sumOf(paper)) : poorestOpen();
            if (by == NONE) {
                unpaid++;
            } else {
                handOver(by, paper);
            }
            return by;
        }

        void handOver(int teller, int paper) {
            if (!hasTeller(teller)) {
                return;
            }
            if (isDrawing(paper)) {
                left[teller] -= costTo(teller, sumOf(paper));
            } else {
                left[teller] = Math.min(left[teller] + sumOf(paper), MOST_LEFT);
            }
            served[teller]++;
            paid++;
        }

        void endTurn() {
            if (week > 0 && (turn + 1) % week == 0) {
                for (int t = 0; t < tellers && t < TELLERS; t++) {
                    if (kind[t] == BROWN && left[t] < days[t]) {
                        left[t]++;
                    }
                }
            }
            turn++;
        }

        /** A TURN: who served; NONE: nobody did. */
        int passTurn() {
            int by = waiting > 0 ? attend(leave(0)) : NONE;
            endTurn();
            return by;
        }

        int leftTogether() {
            int together = 0;
            for (int t = 0; t < tellers && t < TELLERS; t++) {
                together += left[t];
            }
            return together;
        }

        int leastLeft() {
            int least = MOST_LEFT;
            for (int t = 0; t < tellers && t < TELLERS; t++) {
                least = Math.min(least, left[t]);
            }
            return least;
        }

        int firstWithInfancy() {
            for (int t = 0; t < tellers && t < TELLERS; t++) {
                if (left[t] <= infancy) {
                    return t;
                }
            }
            return NONE;
        }

        int cheapestFor(int drawing) {
            int best = 0;
            for (int t = 1; t < tellers && t < TELLERS; t++) {
                if (costTo(t, drawing) < costTo(best, drawing)) {
                    best = t;
                }
            }
            return best;
        }

        int greatestSum() {
            for (int drawing = GREATEST_DRAWING; drawing >= 1; drawing--) {
                if (drawerOf(drawing) != NONE) {
                    return drawing;
                }
            }
            return NONE;
        }

        int twinPairs() {
            int pairs = 0;
            for (int a = 0; a < tellers && a < TELLERS; a++) {
                for (int b = a + 1; b < tellers && b < TELLERS; b++) {
                    if (left[a] == left[b]) {
                        pairs++;
                    }
                }
            }
            return pairs;
        }

        int firstTwins() {
            for (int a = 0; a < tellers && a < TELLERS; a++) {
                for (int b = a + 1; b < tellers && b < TELLERS; b++) {
                    if (left[a] == left[b]) {
                        return 10 * a + b;
                    }
                }
            }
            return NONE;
        }
    }

    /** The BANK as it was ahead of each ACT that can be undone, in a ring. */
    private static final class History {
        private final Bank[] kept = new Bank[ACTS];
        private int latest;
        private int size;

        History() {
            for (int k = 0; k < ACTS; k++) {
                kept[k] = new Bank();
            }
        }

        void keep(Bank bank) {
            latest = (latest + 1) % ACTS;
            kept[latest].takeAll(bank);
            size = Math.min(size + 1, ACTS);
        }

        void goBack(Bank bank) {
            if (size == 0) {
                return;
            }
            bank.takeAll(kept[latest]);
            latest = (latest + ACTS - 1) % ACTS;
            size--;
        }

        void clear() {
            size = 0;
        }
    }

    /** What TURNS will bring, tried on a ghost of the BANK. */
    private static final class Foresight {
        private final Bank ghost = new Bank();
        private final int[] told = new int[WATCHED];
        private int turnsTold;
        private int watched;

        Bank after(Bank bank, int n) {
            ghost.takeAll(bank);
            for (int k = 0; k < n; k++) {
                ghost.passTurn();
            }
            return ghost;
        }

        int serverOf(Bank bank, int paper) {
            int place = bank.placeOf(paper);
            int by = NONE;
            ghost.takeAll(bank);
            for (int k = 0; k <= place; k++) {
                by = ghost.passTurn();
            }
            return by;
        }

        int paidAhead(Bank bank) {
            ghost.takeAll(bank);
            return ghostPaidAhead();
        }

        private int ghostPaidAhead() {
            int all = ghost.waiting;
            for (int k = 0; k < all; k++) {
                if (ghost.passTurn() == NONE) {
                    return k;
                }
            }
            return all;
        }

        int firstInfant(Bank bank) {
            ghost.takeAll(bank);
            for (int k = 0; k < bank.waiting && ghost.firstWithInfancy() == NONE; k++) {
                ghost.passTurn();
            }
            return ghost.firstWithInfancy();
        }

        int fewestCounters(Bank bank) {
            int best = NONE;
            for (int counters = 0; counters < 1 << TELLERS && counters < 1 << bank.tellers; counters++) {
                if (best != NONE && Integer.bitCount(counters) >= Integer.bitCount(best)) {
                    continue;
                }
                ghost.takeAll(bank);
                ghost.open = counters;
                if (ghostPaidAhead() == bank.waiting) {
                    best = counters;
                }
            }
            return best;
        }

        /** From now on it is asked by what a TELLER has LEFT, as ITEMS of a ROW tell it. */
        void watch(int teller, Rows rows, int row, int i, int n) {
            watched = teller;
            turnsTold = Math.min(n, WATCHED);
            for (int k = 0; k < turnsTold; k++) {
                told[k] = rows.itemAt(row, i + k);
            }
        }

        private boolean ghostIsAsTold() {
            for (int k = 0; k < turnsTold && k < WATCHED; k++) {
                ghost.passTurn();
                if (!ghost.hasTeller(watched) || ghost.left[watched] != told[k]) {
                    return false;
                }
            }
            return true;
        }

        int kindsOf(Bank bank, int teller) {
            int fitting = 0;
            for (int kind = CAREFUL; kind <= BROWN && bank.hasTeller(teller); kind++) {
                ghost.takeAll(bank);
                ghost.kind[teller] = kind;
                if (ghostIsAsTold()) {
                    fitting |= 1 << kind;
                }
            }
            return fitting;
        }

        int caresOf(Bank bank, int teller) {
            int fitting = 0;
            for (int care = 1; care <= CARES && bank.hasTeller(teller); care++) {
                ghost.takeAll(bank);
                ghost.care[teller] = care;
                if (ghostIsAsTold()) {
                    fitting |= 1 << care;
                }
            }
            return fitting;
        }

        int sumsOfFirst(Bank bank) {
            int fitting = 0;
            int first = bank.paperAt(0);
            for (int sum = 1; sum <= SUMS && bank.knowsPaper(first); sum++) {
                ghost.takeAll(bank);
                ghost.sum[first] = sum;
                if (ghostIsAsTold()) {
                    fitting |= 1 << sum;
                }
            }
            return fitting;
        }

        int absentPapers(Bank bank) {
            ghost.takeAll(bank);
            int fitting = ghostIsAsTold() ? 1 << PAPERS : 0;
            for (int place = 0; place < bank.waiting; place++) {
                ghost.takeAll(bank);
                int paper = ghost.leave(place);
                if (paper != NONE && ghostIsAsTold()) {
                    fitting |= 1 << paper;
                }
            }
            return fitting;
        }

        /** Of all 10 to the so many cases those in which all who are there are PAID. */
        long casesAllPaid(Bank bank, int p) {
            long cases = 0;
            for (int absent = 0; absent < 1 << PAPERS && absent < 1 << bank.waiting; absent++) {
                ghost.takeAll(bank);
                // From behind, so that the places ahead stay what they are.
                for (int place = bank.waiting - 1; place >= 0; place--) {
                    if ((absent >> place & 1) == 1) {
                        ghost.leave(place);
                    }
                }
                int present = ghost.waiting;
                if (ghostPaidAhead() == present) {
                    cases += power(p, bank.waiting - present) * power(10 - p, present);
                }
            }
            return cases;
        }

        Bank weeks(Bank bank, int n, int seed) {
            long x = seed;
            ghost.takeAll(bank);
            for (int k = 0; k < n; k++) {
                x = x * 16807 % 2147483647;
                ghost.join(x % 3 != 0, (int) (x % 30) + 1);
                ghost.passTurn();
            }
            return ghost;
        }
    }

    /** ORDER and SHARE, by trying all; what was found is kept until the BANK changes. */
    private static final class Search {
        private final Bank[] levels = new Bank[PAPERS + 1];
        private final int[] path = new int[PAPERS];
        private final int[] bestOrder = new int[PAPERS];
        private final int[] bestShare = new int[PAPERS];
        private int papers;
        private int paidBefore;
        private int mostPaid;
        private int mostLeft;
        private int poorest;
        private boolean orderKnown;
        private boolean shareKnown;

        Search() {
            for (int k = 0; k <= PAPERS; k++) {
                levels[k] = new Bank();
            }
        }

        void forget() {
            orderKnown = false;
            shareKnown = false;
        }

        private void makeReady(Bank bank) {
            papers = Math.min(bank.waiting, PAPERS);
            paidBefore = bank.paid;
            for (int k = 0; k <= papers; k++) {
                levels[k].takeAll(bank);
            }
        }

        void findOrder(Bank bank) {
            if (orderKnown) {
                return;
            }
            makeReady(bank);
            mostPaid = -1;
            mostLeft = -1;
            tryOrders(0, bank.queuedBits());
            orderKnown = true;
        }

        private void tryOrders(int depth, int rest) {
            if (depth < 0 || depth > papers) {
                return;
            }
            Bank here = levels[depth];
            int paidHere = here.paid - paidBefore;
            if (depth == papers) {
                keepOrder(paidHere, here.leftTogether());
                return;
            }
            if (paidHere + papers - depth < mostPaid) {
                return;
            }
            Bank next = levels[depth + 1];
            // By numbers from the least on, so that of several the first one is kept.
            for (int paper = 0; paper < PAPERS; paper++) {
                if ((rest >> paper & 1) == 1) {
                    next.takeCourse(here);
                    next.attend(paper);
                    next.endTurn();
                    path[depth] = paper;
                    tryOrders(depth + 1, rest & ~(1 << paper));
                }
            }
        }

        private void keepOrder(int paidHere, int leftHere) {
            if (paidHere > mostPaid || paidHere == mostPaid && leftHere > mostLeft) {
                mostPaid = paidHere;
                mostLeft = leftHere;
                System.arraycopy(path, 0, bestOrder, 0, PAPERS);
            }
        }

        int orderAt(int k) {
            return k >= 0 && k < papers && k < PAPERS ? bestOrder[k] : NONE;
        }

        void findShare(Bank bank) {
            if (shareKnown) {
                return;
            }
            makeReady(bank);
            poorest = NONE;
            tryShares(0, sumPaidIn(bank));
            shareKnown = true;
        }

        private static int sumPaidIn(Bank bank) {
            int together = 0;
            for (int place = 0; place < bank.waiting; place++) {
                int paper = bank.paperAt(place);
                together += bank.isDrawing(paper) ? 0 : bank.sumOf(paper);
            }
            return together;
        }

        private void tryShares(int depth, int paidIn) {
            if (depth < 0 || depth > papers) {
                return;
            }
            Bank here = levels[depth];
            int least = here.leastLeft();
            // The poorest one here cannot end with more than this.
            if (least + paidIn <= poorest) {
                return;
            }
            if (depth == papers) {
                poorest = least;
                System.arraycopy(path, 0, bestShare, 0, PAPERS);
                return;
            }
            int paper = here.paperAt(depth);
            boolean draws = here.isDrawing(paper);
            int sum = here.sumOf(paper);
            Bank next = levels[depth + 1];
            for (int t = 0; t < here.tellers; t++) {
                if (!draws || here.canPay(t, sum)) {
                    next.takeCourse(here);
                    next.handOver(t, paper);
                    path[depth] = t;
                    tryShares(depth + 1, draws ? paidIn : paidIn - sum);
                }
            }
        }

        int shareAt(int k) {
            return poorest != NONE && k >= 0 && k < papers && k < PAPERS ? bestShare[k] : NONE;
        }
    }

    /** ASKS, by BODIES, and THE TRACE that these leave. */
    private static final class Asker {
        private final int[] numbers = new int[TRACED];
        private int traced;

        int begin(Bank bank, int teller, int what) {
            traced = 0;
            return answerOf(bank, teller, what, 0);
        }

        private int answerOf(Bank bank, int teller, int what, int depth) {
            if (!bank.hasTeller(teller)) {
                return 0;
            }
            return run(bodyFor(bank.kind[teller], what), bank, teller, depth);
        }

        private static int bodyFor(int kind, int what) {
            int one = kind;
            for (int k = 0; k < KINDS && one >= 0 && one < KINDS; k++) {
                int body = what == ASK_SIZE ? SIZE_BODY[one] : MARK_BODY[one];
                if (body != 0) {
                    return body;
                }
                one = ABOVE[one];
            }
            return NONE;
        }

        private int run(int body, Bank bank, int teller, int depth) {
            if (depth > DEEPEST_ASK || !bank.hasTeller(teller)) {
                return 0;
            }
            leaveNumber(body);
            int deeper = depth + 1;
            switch (body) {
                case 10:
                    return bank.care[teller];
                case 11:
                    return run(10, bank, teller, deeper) + answerOf(bank, teller, ASK_MARK, deeper);
                case 12:
                    return -run(11, bank, teller, deeper);
                case 13:
                    return run(10, bank, teller, deeper) - 100;
                case 14:
                    return 2 * run(13, bank, teller, deeper);
                case 20:
                    return teller;
                case 21:
                    return run(20, bank, teller, deeper) + bank.left[teller];
                case 22:
                    return run(21, bank, teller, deeper) - 1000;
                case 23:
                    return run(20, bank, teller, deeper) - answerOf(bank, teller, ASK_SIZE, deeper);
                case 24:
                    return 2 * run(21, bank, teller, deeper);
                default:
                    return 0;
            }
        }

        private void leaveNumber(int body) {
            if (traced < TRACED) {
                numbers[traced] = body;
                traced++;
            }
        }

        int traceAt(int i) {
            return i >= 0 && i < traced && i < TRACED ? numbers[i] : NONE;
        }
    }
}
