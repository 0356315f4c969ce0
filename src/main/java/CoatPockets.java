/**
 * Boys who share coats by turns, and what is in the pockets of these.
 * What each call answers is told in ../shared/DOC.md, by numbered promises.
 */
public final class CoatPockets {
    public static final int BAD = -1, NOT = -2, FULL = -3, NONE = -4, NULL = -11, CAST = -12, INDEX = -13, SIZE = -14;

    private static final int BOYS = 8, COATS = 4, TURN = 4, HOLES = 4, THINGS = 8;
    private static final int SWEET = 1, NOTE = 2, FROG = 3, KINDS = 4;
    private static final int POCKET = 10, LINING = 20, EATEN = 30, NOBODY = 8;
    private static final int MOST_BELLS = 9999, WAY_BELLS = 24, ORDERS = 24, MARBLES = 999;
    private static final int TAPE = 100, TYPED = 8, FAULT = -20, OK = 0;
    private static final int SHEETS = 4, BYTES = 0, SHORTS = 1, LANES = 3, ITEMS = 24, DEBT = 3, MOST_DEBTS = 6;
    private static final int LESS = 100000;

    private final State now = new State();
    private final State kept = new State();
    private boolean imaged;
    private final Tape tape = new Tape();
    private final Reader reader = new Reader();
    private final Ways ways = new Ways();
    private final Ledger ledger = new Ledger();
    private final Sheets sheets = new Sheets();

    public CoatPockets() {
    }

    // ---- 1 coats, things

    public int coat(int turn, int n, int hole) {
        if (!isTurn(turn, n) || !within(hole, HOLES)) {
            return BAD;
        }
        if (now.coats.many >= COATS) {
            return FULL;
        }
        now.coats.open();
        for (int i = 0; i < n; i++) {
            now.coats.join(turn >> 3 * i & 7);
        }
        now.coats.close(hole);
        return now.coats.many - 1;
    }

    public int thing(int kind, int boy) {
        if (!within(kind, KINDS) || !within(boy, BOYS)) {
            return BAD;
        }
        if (now.things.many >= THINGS) {
            return FULL;
        }
        return now.things.add(kind, boy);
    }

    public int where(int thing) {
        return now.things.has(thing) ? now.things.places[thing] : BAD;
    }

    public int told(int thing, int what) {
        if (!now.things.has(thing)) {
            return BAD;
        }
        switch (what) {
            case 0:
                return now.things.kinds[thing];
            case 1:
                return now.things.readers[thing];
            case 2:
                return now.things.eaters[thing];
            default:
                return BAD;
        }
    }

    public int of(int coat, int what) {
        if (!now.coats.has(coat) || !within(what, 5 + TURN)) {
            return BAD;
        }
        switch (what) {
            case 0:
                return now.coats.wearer(coat);
            case 1:
                return now.coats.sizes[coat];
            case 2:
                return now.coats.holes[coat];
            case 3:
                return now.things.at(POCKET + coat);
            case 4:
                return now.things.at(LINING + coat);
            default:
                return now.coats.boyOfTurn(coat, what - 5);
        }
    }

    public int hole(int coat, int v) {
        if (!now.coats.has(coat) || !within(v, HOLES)) {
            return BAD;
        }
        int was = now.coats.holes[coat];
        now.coats.holes[coat] = v;
        return was;
    }

    public int type(long w, int n) {
        if (n < 1 || n > TYPED || !isText(w, n)) {
            return BAD;
        }
        if (tape.length + n > TAPE) {
            return FULL;
        }
        for (int i = n - 1; i >= 0; i--) {
            tape.append((int) (w >> 8 * i & 255));
        }
        return tape.length;
    }

    public int school() {
        int fault = reader.readSchool(tape);
        tape.clear();
        if (fault != OK) {
            return fault;
        }
        now.coats.become(reader.coats);
        now.things.leaveCoats();
        return now.coats.many;
    }

    public int day() {
        int fault = reader.checkDay(tape, now);
        int done = fault == OK ? reader.runDay(tape, now) : fault;
        tape.clear();
        return done;
    }

    public int count(int what) {
        switch (what) {
            case 0:
                return now.coats.many;
            case 1:
                return now.things.many;
            case 2:
                return now.bells;
            case 3:
                return now.things.between(POCKET, LINING);
            case 4:
                return now.things.between(LINING, EATEN);
            case 5:
                return now.things.between(EATEN, EATEN + 1);
            default:
                return BAD;
        }
    }

    // ---- 2 acts, ways

    public int put(int thing, int coat) {
        return now.things.has(thing) && now.coats.has(coat) ? now.putIn(thing, coat) : BAD;
    }

    public int take(int thing, int coat) {
        return now.things.has(thing) && now.coats.has(coat) ? now.takeOut(thing, coat) : BAD;
    }

    public int search(int coat) {
        return now.coats.has(coat) ? now.searchLining(coat) : BAD;
    }

    public int give(int thing, int boy) {
        return now.things.has(thing) && within(boy, BOYS) ? now.handOver(thing, boy) : BAD;
    }

    public int bell() {
        return now.ring();
    }

    public int reach(int boy, int n, int thieves) {
        if (!within(boy, BOYS) || !within(n, WAY_BELLS + 1) || !isBoys(thieves)) {
            return BAD;
        }
        return ways.handsAfter(now.coats, boy, n, thieves);
    }

    public int soonest(int from, int to, int thieves, int what) {
        if (!within(from, BOYS) || !within(to, BOYS) || !isBoys(thieves) || !within(what, 2)) {
            return BAD;
        }
        int bells = ways.fewestBells(now.coats, from, to, thieves);
        if (bells == NONE || what == 0) {
            return bells;
        }
        return ways.comingTo(to);
    }

    public int dealt(int coat, int from, int to, int i) {
        if (!now.coats.has(coat) || !within(from, BOYS) || !within(to, BOYS) || i < -1 || i >= TURN) {
            return BAD;
        }
        int bells = ways.dealBest(now.coats, coat, from, to);
        if (bells == NONE || i >= now.coats.sizes[coat]) {
            return NONE;
        }
        return i < 0 ? bells : ways.best[i];
    }

    public int wore(int coat, int n) {
        return now.coats.has(coat) && within(n, WAY_BELLS + 1) ? now.coats.wearers(coat, n) : BAD;
    }

    // ---- 3 debts

    public int owe(int a, int b, int v) {
        if (!isPair(a, b) || !within(v, MARBLES + 1)) {
            return BAD;
        }
        int was = now.owed[a * BOYS + b];
        now.owed[a * BOYS + b] = v;
        return was;
    }

    public int balance(int boy) {
        return within(boy, BOYS) ? now.balanceOf(boy) : BAD - LESS;
    }

    public int payments() {
        return ledger.fewest(now);
    }

    public int seed(int v) {
        if (v < 0) {
            return BAD;
        }
        int was = now.draw;
        now.draw = v;
        return was;
    }

    public int image() {
        kept.become(now);
        imaged = true;
        return 1;
    }

    public int restore() {
        if (!imaged) {
            return NONE;
        }
        now.become(kept);
        return 1;
    }

    // ---- 4 sheets

    public int owes(int sheet, int lane, int from, int n) {
        if (!within(sheet, SHEETS) || !within(lane, LANES) || n < 1 || n > MOST_DEBTS) {
            return BAD;
        }
        int found = sheets.find(sheet, lane, from, n * DEBT);
        if (found != OK) {
            return found;
        }
        return ledger.addDebts(now, sheets.items, sheet * ITEMS + from, n);
    }

    public int film(int sheet, int lane, int from) {
        if (!within(sheet, SHEETS) || !within(lane, LANES)) {
            return BAD;
        }
        int many = now.things.many;
        int found = sheets.find(sheet, lane, from, many);
        if (found != OK) {
            return found;
        }
        System.arraycopy(now.things.places, 0, sheets.items, sheet * ITEMS + from, many);
        return many;
    }

    public int sheet(int sheet, int lane, int n) {
        if (!within(sheet, SHEETS) || !within(lane, LANES) || n > ITEMS) {
            return BAD;
        }
        if (n < 0) {
            return SIZE;
        }
        sheets.lay(sheet, lane, n);
        return n;
    }

    public int drop(int sheet) {
        if (!within(sheet, SHEETS)) {
            return BAD;
        }
        if (!sheets.held[sheet]) {
            return NULL;
        }
        sheets.held[sheet] = false;
        return sheets.sizes[sheet];
    }

    public int item(int sheet, int lane, int i, int v) {
        if (!within(sheet, SHEETS) || !within(lane, LANES)) {
            return BAD;
        }
        int found = sheets.find(sheet, lane, i, 1);
        if (found != OK) {
            return found;
        }
        sheets.items[sheet * ITEMS + i] = cut(lane, v);
        return 1;
    }

    public int copy(int from, int i, int to, int j, int n) {
        if (!within(from, SHEETS) || !within(to, SHEETS)) {
            return BAD;
        }
        if (!sheets.held[from] || !sheets.held[to]) {
            return NULL;
        }
        int found = sheets.find(from, sheets.lanes[to], i, n);
        if (found == OK) {
            found = sheets.find(to, sheets.lanes[to], j, n);
        }
        if (found != OK) {
            return found;
        }
        System.arraycopy(sheets.items, from * ITEMS + i, sheets.items, to * ITEMS + j, n);
        return n;
    }

    // ---- what a call names

    private static boolean within(int v, int end) {
        return v >= 0 && v < end;
    }

    private static boolean isBoys(int set) {
        return within(set, 1 << BOYS);
    }

    private static boolean isPair(int a, int b) {
        return within(a, BOYS) && within(b, BOYS) && a != b;
    }

    private static boolean isTurn(int turn, int n) {
        if (n < 1 || n > TURN || !within(turn, 1 << 3 * n)) {
            return false;
        }
        int seen = 0;
        for (int i = 0; i < n; i++) {
            seen |= 1 << (turn >> 3 * i & 7);
        }
        return Integer.bitCount(seen) == n;
    }

    private static boolean isText(long w, int n) {
        for (int i = 0; i < n; i++) {
            long b = w >> 8 * i & 255;
            if (b < 32 || b > 126) {
                return false;
            }
        }
        return true;
    }

    private static int cut(int lane, int v) {
        if (lane == BYTES) {
            return (byte) v;
        }
        return lane == SHORTS ? (short) v : v;
    }

    /** All that an image keeps, and the acts on it. */
    private static final class State {
        final Coats coats = new Coats();
        final Things things = new Things();
        final int[] owed = new int[BOYS * BOYS];
        int bells;
        int draw = 1;

        void become(State other) {
            coats.become(other.coats);
            things.become(other.things);
            System.arraycopy(other.owed, 0, owed, 0, BOYS * BOYS);
            bells = other.bells;
            draw = other.draw;
        }

        int putIn(int thing, int coat) {
            int wearer = coats.wearer(coat);
            if (things.places[thing] != wearer) {
                return NOT;
            }
            things.places[thing] = POCKET + coat;
            things.readBy(thing, wearer);
            return wearer;
        }

        int takeOut(int thing, int coat) {
            if (things.places[thing] != POCKET + coat) {
                return NOT;
            }
            things.places[thing] = coats.wearer(coat);
            return things.places[thing];
        }

        int searchLining(int coat) {
            int found = 0;
            for (int t = 0; t < things.many; t++) {
                if (things.places[t] == LINING + coat) {
                    things.places[t] = POCKET + coat;
                    things.readBy(t, coats.wearer(coat));
                    found++;
                }
            }
            return found;
        }

        int handOver(int thing, int boy) {
            int giver = things.places[thing];
            if (giver >= BOYS || giver == boy || !coats.anyOn(giver) || !coats.anyOn(boy)) {
                return NOT;
            }
            things.places[thing] = boy;
            return giver;
        }

        int ring() {
            if (bells >= MOST_BELLS) {
                return FULL;
            }
            int fallen = 0;
            for (int t = 0; t < things.many; t++) {
                if (things.inPocket(t)) {
                    fallen += change(t, things.places[t] - POCKET);
                }
            }
            coats.turnAll();
            for (int t = 0; t < things.many; t++) {
                if (things.inPocket(t)) {
                    things.readBy(t, coats.wearer(things.places[t] - POCKET));
                }
            }
            bells++;
            return fallen;
        }

        /** What a bell does to a thing in the pocket of a coat: 1 if it falls into the lining. */
        private int change(int thing, int coat) {
            if (things.kinds[thing] == SWEET) {
                things.places[thing] = EATEN;
                things.eaters[thing] = coats.wearer(coat);
                return 0;
            }
            if (things.kinds[thing] == FROG) {
                things.places[thing] = POCKET + (coat + 1 < coats.many ? coat + 1 : 0);
                return 0;
            }
            if (coats.holes[coat] == 0 || !drawsBelow(coats.holes[coat])) {
                return 0;
            }
            things.places[thing] = LINING + coat;
            return 1;
        }

        private boolean drawsBelow(int hole) {
            draw = draw * 1103515245 + 12345 & 0x7fffffff;
            return draw / 65536 % 4 < hole;
        }

        int balanceOf(int boy) {
            int balance = 0;
            for (int other = 0; other < BOYS; other++) {
                balance += owed[other * BOYS + boy] - owed[boy * BOYS + other];
            }
            return balance;
        }
    }

    /** Coats: their turns, whose of each it is, their holes. */
    private static final class Coats {
        int many;
        /** The turn of coat c stands from c * TURN on. */
        final int[] boys = new int[COATS * TURN];
        final int[] sizes = new int[COATS];
        /** Which one of its turn wears each coat. */
        final int[] turns = new int[COATS];
        final int[] holes = new int[COATS];

        void become(Coats other) {
            many = other.many;
            System.arraycopy(other.boys, 0, boys, 0, COATS * TURN);
            System.arraycopy(other.sizes, 0, sizes, 0, COATS);
            System.arraycopy(other.turns, 0, turns, 0, COATS);
            System.arraycopy(other.holes, 0, holes, 0, COATS);
        }

        boolean has(int coat) {
            return within(coat, many);
        }

        /** A coat that is being made stands behind the others, and counts as it is closed. */
        void open() {
            if (many < COATS) {
                sizes[many] = 0;
                turns[many] = 0;
            }
        }

        void join(int boy) {
            if (many < COATS && sizes[many] < TURN) {
                boys[many * TURN + sizes[many]] = boy;
                sizes[many]++;
            }
        }

        void close(int hole) {
            if (many < COATS) {
                holes[many] = hole;
                many++;
            }
        }

        int wearer(int coat) {
            return boys[coat * TURN + turns[coat]];
        }

        int boyOfTurn(int coat, int i) {
            return i < sizes[coat] ? boys[coat * TURN + i] : NONE;
        }

        boolean anyOn(int boy) {
            for (int c = 0; c < many; c++) {
                if (wearer(c) == boy) {
                    return true;
                }
            }
            return false;
        }

        void turnAll() {
            for (int c = 0; c < many; c++) {
                turns[c] = turns[c] + 1 < sizes[c] ? turns[c] + 1 : 0;
            }
        }

        /** Who wears a coat, and who by its turn wore it ahead of the last 1 .. bells. */
        int wearers(int coat, int bells) {
            int set = 0;
            int place = turns[coat];
            for (int k = 0; k <= bells; k++) {
                set |= 1 << boys[coat * TURN + place];
                place = place > 0 ? place - 1 : sizes[coat] - 1;
            }
            return set;
        }

        void sortTurn(int coat) {
            int start = coat * TURN;
            for (int i = start; i < start + sizes[coat]; i++) {
                for (int j = i + 1; j < start + sizes[coat]; j++) {
                    if (boys[j] < boys[i]) {
                        swap(i, j);
                    }
                }
            }
        }

        /** A turn gets the order that comes next as a row of boys; false if it had the last one. */
        boolean nextOrder(int coat) {
            int start = coat * TURN;
            int last = start + sizes[coat] - 1;
            int i = last - 1;
            while (i >= start && boys[i] > boys[i + 1]) {
                i--;
            }
            if (i < start) {
                return false;
            }
            int j = last;
            while (j > i + 1 && boys[j] < boys[i]) {
                j--;
            }
            swap(i, j);
            for (int a = i + 1, b = last; a < b; a++, b--) {
                swap(a, b);
            }
            return true;
        }

        private void swap(int i, int j) {
            int boy = boys[i];
            boys[i] = boys[j];
            boys[j] = boy;
        }
    }

    /** Things: their kinds, where they are, who read and who ate them. */
    private static final class Things {
        int many;
        final int[] kinds = new int[THINGS];
        /** As where() tells it. */
        final int[] places = new int[THINGS];
        final int[] readers = new int[THINGS];
        final int[] eaters = new int[THINGS];

        void become(Things other) {
            many = other.many;
            System.arraycopy(other.kinds, 0, kinds, 0, THINGS);
            System.arraycopy(other.places, 0, places, 0, THINGS);
            System.arraycopy(other.readers, 0, readers, 0, THINGS);
            System.arraycopy(other.eaters, 0, eaters, 0, THINGS);
        }

        boolean has(int thing) {
            return within(thing, many);
        }

        int add(int kind, int boy) {
            kinds[many] = kind;
            places[many] = boy;
            readers[many] = 0;
            eaters[many] = NOBODY;
            many++;
            return many - 1;
        }

        boolean inPocket(int thing) {
            return places[thing] >= POCKET && places[thing] < LINING;
        }

        void readBy(int thing, int boy) {
            if (kinds[thing] == NOTE) {
                readers[thing] |= 1 << boy;
            }
        }

        /** The set of things at a place. */
        int at(int place) {
            int set = 0;
            for (int t = 0; t < many; t++) {
                if (places[t] == place) {
                    set |= 1 << t;
                }
            }
            return set;
        }

        int between(int first, int end) {
            int found = 0;
            for (int t = 0; t < many; t++) {
                if (places[t] >= first && places[t] < end) {
                    found++;
                }
            }
            return found;
        }

        void leaveCoats() {
            for (int t = 0; t < many; t++) {
                if (places[t] >= POCKET && places[t] < EATEN) {
                    places[t] = 0;
                }
            }
        }
    }

    /** Bytes typed, and how far they have been looked at. */
    private static final class Tape {
        final int[] bytes = new int[TAPE];
        int length;
        int looked;

        void append(int b) {
            if (length < TAPE) {
                bytes[length] = b;
                length++;
            }
        }

        void clear() {
            length = 0;
        }

        boolean atEnd() {
            while (looked < length && bytes[looked] == ' ') {
                looked++;
            }
            return looked >= length;
        }

        boolean passes(char sign) {
            if (atEnd() || bytes[looked] != sign) {
                return false;
            }
            looked++;
            return true;
        }

        /** The digit that stands there, if it is below end; it is not passed. Otherwise NONE. */
        int digitBelow(int end) {
            if (atEnd()) {
                return NONE;
            }
            int digit = bytes[looked] - '0';
            return within(digit, end) ? digit : NONE;
        }

        /** Passes such a digit. */
        int passDigit(int end) {
            int digit = digitBelow(end);
            if (digit != NONE) {
                looked++;
            }
            return digit;
        }

        int fault() {
            return FAULT - looked;
        }
    }

    /** Reads tapes as schools and days. */
    private static final class Reader {
        /** The school that was read. */
        final Coats coats = new Coats();
        /** The act that was read: its letter, its thing, its coat or boy. */
        char act;
        int thing;
        int target;

        int readSchool(Tape tape) {
            tape.looked = 0;
            coats.many = 0;
            for (int c = 0; c < COATS; c++) {
                if (!readCoat(tape)) {
                    return tape.fault();
                }
                if (tape.atEnd()) {
                    return OK;
                }
                if (c == COATS - 1 || !tape.passes(',')) {
                    return tape.fault();
                }
            }
            return tape.fault();
        }

        private boolean readCoat(Tape tape) {
            coats.open();
            int seen = 0;
            int size = 0;
            int boy = tape.digitBelow(BOYS);
            while (boy != NONE && size < TURN) {
                if ((seen >> boy & 1) != 0) {
                    return false;
                }
                seen |= 1 << boy;
                size++;
                coats.join(boy);
                tape.looked++;
                boy = tape.digitBelow(BOYS);
            }
            if (size == 0) {
                return false;
            }
            int hole = tape.passes('h') ? tape.passDigit(HOLES) : 0;
            if (hole == NONE) {
                return false;
            }
            coats.close(hole);
            return true;
        }

        /** Looks at a whole day ahead of the first act, as a fault must leave all undone. */
        int checkDay(Tape tape, State state) {
            tape.looked = 0;
            for (int i = 0; i < TAPE; i++) {
                if (!readAct(tape, state)) {
                    return tape.fault();
                }
                if (tape.atEnd()) {
                    return OK;
                }
                if (!tape.passes(';')) {
                    return tape.fault();
                }
            }
            return tape.fault();
        }

        int runDay(Tape tape, State state) {
            tape.looked = 0;
            for (int done = 0; done < TAPE; done++) {
                if (!readAct(tape, state) || doAct(state) < 0) {
                    return done;
                }
                if (!tape.passes(';')) {
                    return done + 1;
                }
            }
            return TAPE;
        }

        private boolean readAct(Tape tape, State state) {
            if (tape.passes('b')) {
                act = 'b';
                return true;
            }
            if (tape.passes('s')) {
                act = 's';
                target = tape.passDigit(state.coats.many);
                return target != NONE;
            }
            if (tape.passes('p')) {
                act = 'p';
                return readWay(tape, state, state.coats.many);
            }
            if (tape.passes('t')) {
                act = 't';
                return readWay(tape, state, state.coats.many);
            }
            if (tape.passes('g')) {
                act = 'g';
                return readWay(tape, state, BOYS);
            }
            return false;
        }

        /** A thing, > and one of so many targets. */
        private boolean readWay(Tape tape, State state, int targets) {
            thing = tape.passDigit(state.things.many);
            if (thing == NONE || !tape.passes('>')) {
                return false;
            }
            target = tape.passDigit(targets);
            return target != NONE;
        }

        private int doAct(State state) {
            switch (act) {
                case 'p':
                    return state.putIn(thing, target);
                case 't':
                    return state.takeOut(thing, target);
                case 's':
                    return state.searchLining(target);
                case 'g':
                    return state.handOver(thing, target);
                default:
                    return state.ring();
            }
        }
    }

    /** In whose hands and in which pockets a knife can be, bell by bell. */
    private static final class Ways {
        /** As they will be worn; the true ones stay as they are. */
        final Coats coats = new Coats();
        /** The best order that a turn was dealt. */
        final int[] best = new int[TURN];
        private int thieves;
        private int hands;
        private int pockets;
        /** The pockets in which it came over the last bell. */
        private int arrived;

        int handsAfter(Coats school, int boy, int bells, int thieves) {
            coats.become(school);
            start(boy, thieves);
            for (int k = 0; k < bells; k++) {
                ring();
            }
            return hands;
        }

        int fewestBells(Coats school, int from, int to, int thieves) {
            coats.become(school);
            start(from, thieves);
            return bellsTo(to, WAY_BELLS);
        }

        /** Coats that a boy wears, in whose pockets it came to him. */
        int comingTo(int boy) {
            int set = 0;
            for (int c = 0; c < coats.many; c++) {
                if ((arrived >> c & 1) != 0 && coats.wearer(c) == boy) {
                    set |= 1 << c;
                }
            }
            return set;
        }

        /** The fewest bells by any order of a coat's turn, which is left in best; or NONE. */
        int dealBest(Coats school, int coat, int from, int to) {
            int least = NONE;
            coats.become(school);
            coats.sortTurn(coat);
            boolean more = true;
            for (int k = 0; k < ORDERS && more; k++) {
                System.arraycopy(school.turns, 0, coats.turns, 0, COATS);
                coats.turns[coat] = 0;
                start(from, 0);
                // Only fewer bells count, so that of like orders the first stays.
                int bells = bellsTo(to, least == NONE ? WAY_BELLS : least - 1);
                if (bells != NONE) {
                    least = bells;
                    System.arraycopy(coats.boys, coat * TURN, best, 0, TURN);
                }
                more = coats.nextOrder(coat);
            }
            return least;
        }

        private int bellsTo(int boy, int most) {
            for (int k = 0; k <= most; k++) {
                if ((hands >> boy & 1) != 0) {
                    return k;
                }
                if (k < most) {
                    ring();
                }
            }
            return NONE;
        }

        private void start(int boy, int thieves) {
            this.thieves = thieves & ~(1 << boy);
            hands = 1 << boy;
            pockets = 0;
            arrived = 0;
            spread();
        }

        private void ring() {
            coats.turnAll();
            for (int c = 0; c < coats.many; c++) {
                if ((thieves >> coats.wearer(c) & 1) != 0) {
                    pockets &= ~(1 << c);
                }
            }
            arrived = pockets;
            spread();
        }

        /** All taking, then all putting: more of either brings nothing new till the next bell. */
        private void spread() {
            for (int c = 0; c < coats.many; c++) {
                if ((pockets >> c & 1) != 0) {
                    hands |= 1 << coats.wearer(c);
                }
            }
            for (int c = 0; c < coats.many; c++) {
                // A thief never has it in hands, so he puts it nowhere.
                if (coats.holes[c] == 0 && (hands >> coats.wearer(c) & 1) != 0) {
                    pockets |= 1 << c;
                }
            }
        }
    }

    /** Debts in rows, and their paying off. */
    private static final class Ledger {
        private final int[] trial = new int[BOYS * BOYS];
        private final int[] open = new int[BOYS];
        private final int[] sums = new int[1 << BOYS];
        private final int[] most = new int[1 << BOYS];

        /** Adds n debts that stand in items from start on, or none of them. */
        int addDebts(State state, int[] items, int start, int n) {
            System.arraycopy(state.owed, 0, trial, 0, BOYS * BOYS);
            int together = 0;
            for (int k = 0; k < n; k++) {
                int at = start + k * DEBT;
                if (!addDebt(items[at], items[at + 1], items[at + 2])) {
                    return NOT;
                }
                together += items[at + 2];
            }
            System.arraycopy(trial, 0, state.owed, 0, BOYS * BOYS);
            return together;
        }

        private boolean addDebt(int a, int b, int more) {
            if (!isPair(a, b) || !within(more, MARBLES + 1) || trial[a * BOYS + b] + more > MARBLES) {
                return false;
            }
            trial[a * BOYS + b] += more;
            return true;
        }

        int fewest(State state) {
            int many = 0;
            for (int boy = 0; boy < BOYS; boy++) {
                int balance = state.balanceOf(boy);
                if (balance != 0) {
                    open[many] = balance;
                    many++;
                }
            }
            return many - mostSets(many);
        }

        /**
         * Into how many sets that come to 0 the open balances can be parted: boys are lined up
         * one by one, and each line whose sum is 0 ends a set.
         */
        private int mostSets(int many) {
            sums[0] = 0;
            most[0] = 0;
            for (int set = 1; set < 1 << many; set++) {
                int sets = 0;
                for (int i = 0; i < many; i++) {
                    if ((set >> i & 1) != 0) {
                        sums[set] = sums[set ^ 1 << i] + open[i];
                        sets = Math.max(sets, most[set ^ 1 << i]);
                    }
                }
                most[set] = sums[set] == 0 ? sets + 1 : sets;
            }
            return most[(1 << many) - 1];
        }
    }

    /** The sheets; the rows are made once, and laid anew. */
    private static final class Sheets {
        final boolean[] held = new boolean[SHEETS];
        final int[] lanes = new int[SHEETS];
        final int[] sizes = new int[SHEETS];
        /** The items of sheet s stand from s * ITEMS on. */
        final int[] items = new int[SHEETS * ITEMS];

        void lay(int s, int lane, int n) {
            held[s] = true;
            lanes[s] = lane;
            sizes[s] = n;
            for (int i = 0; i < ITEMS; i++) {
                items[s * ITEMS + i] = 0;
            }
        }

        /** OK if a sheet is a row of a lane that has n items from one on, or what is refused. */
        int find(int s, int lane, int from, int n) {
            if (!held[s]) {
                return NULL;
            }
            if (lanes[s] != lane) {
                return CAST;
            }
            return from < 0 || n < 0 || from > sizes[s] - n ? INDEX : OK;
        }
    }
}
