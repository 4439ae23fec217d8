import java.util.Arrays;

/** An office of up to eight officials, whose stamps are had in some order. */
public final class StampOrder {
    public static final int NONE = -1;

    private static final int NO_SUCH = -2;
    private static final int BELOW_ZERO = -3;
    private static final int FAULTY = -4;
    private static final int NOT_NOW = -5;
    private static final int NOTHING = -6;
    private static final int NO_PLACE = -7;
    private static final int UNLIKE_WIDTHS = -8;
    private static final int NOT_FORGED = -1000;
    private static final int NO_SUCH_FORGED = -2000;

    private static final int MOST_BYTES = 1600;
    private static final int FED_BYTES = 20;
    private static final int MOST_OFFICIALS = 8;
    private static final int MOST_SETS = 256;
    private static final int MOST_ROOMS = 6;
    private static final int MOST_MOVES = 40;
    private static final int WAITED = 10;
    private static final int MOST_WAIT = 99;

    private static final int HOURS = 400;
    private static final int DAY_HOURS = 10;
    private static final int DAYS_IN_ALL = 40;
    private static final int WEEK_DAYS = 5;
    private static final int WEEK_HOURS = 50;
    /** Above every HOUR, and far from where an int wraps. */
    private static final int FOREVER = 1000000;

    private static final int ROOM = 0;
    private static final int OPENS = 1;
    private static final int SHUTS = 2;
    private static final int DAYS = 3;
    private static final int LUNCH = 4;
    private static final int FADES = 5;
    private static final int PRICE = 6;
    private static final int LEAVE_FROM = 7;
    private static final int LEAVE_TO = 8;
    private static final int NEEDS = 9;
    private static final int BARS = 10;
    private static final int FACTS = 11;

    private static final int SOONEST = 0;
    private static final int LEAST = 1;
    private static final int CHEAPEST = 2;
    private static final int AIMS = 3;

    private static final int IMAGES = 3;
    private static final int MOST_QUEUE = 9;
    private static final int MOST_SEED = 2000000000;
    private static final int MOST_LUCK = 20;

    private final Tape tape;
    private final Reader reader;
    private final Plan plan;
    private final Timetable table;
    private final Walker walker;
    private final Walker spare;
    private final Rows soon;
    private final Rows every;
    private final Rows trial;
    private final Sets sets;
    private final Loose loose;
    private final Slots slots;
    private final Queue queue;
    private final Blind blind;
    private final Plan[] images;
    private boolean startKnown;
    private int startFirst;
    private int startTakes;

    public StampOrder() {
        tape = new Tape();
        reader = new Reader(tape);
        plan = new Plan();
        table = new Timetable();
        walker = new Walker(plan, table);
        spare = new Walker(plan, table);
        soon = new Rows(new Walker(plan, table));
        every = new Rows(new Walker(plan, table));
        trial = new Rows(new Walker(plan, table));
        sets = new Sets();
        loose = new Loose();
        slots = new Slots();
        queue = new Queue(new Walker(plan, table));
        blind = new Blind(new Walker(plan, table));
        images = new Plan[IMAGES];
    }

    // ---- the text

    public int feed(int a, int b, int c, int d, int e) {
        if (tape.length > MOST_BYTES - FED_BYTES) {
            return NONE;
        }
        tape.put(a);
        tape.put(b);
        tape.put(c);
        tape.put(d);
        tape.put(e);
        return tape.length;
    }

    public int end(int n) {
        if (n < 0 || n > tape.length) {
            return NONE;
        }
        tape.length = n;
        return n;
    }

    public int office() {
        reader.readAll();
        tape.length = 0;
        if (reader.fault != 0) {
            return FAULTY;
        }
        plan.copyFrom(reader.plan);
        planChanged();
        return plan.lines;
    }

    public int fault(int what) {
        if (what == 0) {
            return reader.fault;
        }
        return what == 1 ? reader.place : NONE;
    }

    // ---- what the office tells

    public int official(int official, int what) {
        if (!plan.hasOfficial(official) || what < ROOM || what > LEAVE_TO) {
            return NO_SUCH;
        }
        return plan.told[what][official];
    }

    public int asks(int official, int what) {
        if (!plan.hasOfficial(official) || !isBit(what)) {
            return NO_SUCH;
        }
        return plan.told[NEEDS + what][official];
    }

    public int asked(int official, int what) {
        if (!plan.hasOfficial(official) || !isBit(what)) {
            return NO_SUCH;
        }
        int askers = 0;
        for (int i = 0; i < plan.officials; i++) {
            if (hasBit(plan.told[NEEDS + what][i], official)) {
                askers |= 1 << i;
            }
        }
        return askers;
    }

    public int open(int official, int hour) {
        if (!plan.hasOfficial(official) || !isHour(hour)) {
            return NO_SUCH;
        }
        return plan.isOpen(official, hour) ? 1 : 0;
    }

    public int opens(int official, int hour) {
        if (!plan.hasOfficial(official) || !isHour(hour)) {
            return NO_SUCH;
        }
        return table.firstOpen(official, hour);
    }

    public int week(int official) {
        if (!plan.hasOfficial(official)) {
            return NO_SUCH;
        }
        int hours = 0;
        for (int hour = 0; hour < WEEK_HOURS; hour++) {
            if (plan.isOffered(official, hour)) {
                hours++;
            }
        }
        return hours;
    }

    public int walk(int room, int other) {
        if (!plan.hasRoom(room) || !plan.hasRoom(other)) {
            return NO_SUCH;
        }
        return table.hoursBetween(room, other);
    }

    public int permit() {
        return plan.isThere() ? plan.permit : NO_SUCH;
    }

    // ---- where one is

    public int now() {
        return plan.isThere() ? walker.hour : NO_SUCH;
    }

    public int room() {
        return plan.isThere() ? walker.room : NO_SUCH;
    }

    public int held() {
        return plan.isThere() ? walker.holding() : NO_SUCH;
    }

    public int until(int official) {
        if (!plan.hasOfficial(official)) {
            return NO_SUCH;
        }
        int last = walker.lastHeld(official);
        return walker.holds(official) && last != FOREVER ? last : NONE;
    }

    public int when(int official) {
        return plan.hasOfficial(official) ? walker.stampHour(official) : NO_SUCH;
    }

    public int why(int official) {
        return plan.hasOfficial(official) ? walker.obstacle(official) : NO_SUCH;
    }

    public int can() {
        return plan.isThere() ? walker.willing() : NO_SUCH;
    }

    // ---- going

    public int go(int official) {
        if (!plan.hasOfficial(official)) {
            return NO_SUCH;
        }
        int hour = walker.stampHour(official);
        if (hour == NONE || !plan.noteMove(official)) {
            return NOT_NOW;
        }
        walker.stampIn(official, hour);
        forgetRows();
        return hour;
    }

    public int waits(int n) {
        if (!plan.isThere() || n < 1 || n > MOST_WAIT) {
            return NO_SUCH;
        }
        if (walker.hour + n > HOURS || !plan.noteMove(WAITED + n)) {
            return NOT_NOW;
        }
        walker.hour += n;
        forgetRows();
        return walker.hour;
    }

    public int undo() {
        if (!plan.isThere()) {
            return NO_SUCH;
        }
        if (plan.moved == 0) {
            return NOT_NOW;
        }
        plan.moved--;
        retrace();
        return plan.moved;
    }

    public int anew() {
        if (!plan.isThere()) {
            return NO_SUCH;
        }
        int moved = plan.moved;
        plan.moved = 0;
        retrace();
        return moved;
    }

    public int led(int i) {
        if (!plan.isThere()) {
            return NO_SUCH;
        }
        return i >= 0 && i < plan.moved ? plan.moves[i] : NONE;
    }

    public int shoes() {
        return plan.isThere() ? walker.walked : NO_SUCH;
    }

    public int paid() {
        return plan.isThere() ? walker.spent : NO_SUCH;
    }

    public int done() {
        if (!plan.isThere()) {
            return NO_SUCH;
        }
        return walker.missing() == 0 ? 1 : 0;
    }

    // ---- rows by which it is done

    public int soonest() {
        return plan.isThere() ? soonRows().best(SOONEST) : NO_SUCH;
    }

    public int step(int i) {
        return plan.isThere() ? soonRows().officialAt(SOONEST, i) : NO_SUCH;
    }

    public int fewest() {
        return plan.isThere() ? everyRow().fewestOfficials : NO_SUCH;
    }

    public int least() {
        return plan.isThere() ? everyRow().best(LEAST) : NO_SUCH;
    }

    public int tread(int i) {
        return plan.isThere() ? everyRow().officialAt(LEAST, i) : NO_SUCH;
    }

    public int cheapest() {
        return plan.isThere() ? everyRow().best(CHEAPEST) : NO_SUCH;
    }

    public int whom() {
        return plan.isThere() ? everyRow().officialsOf(CHEAPEST) : NO_SUCH;
    }

    public int ways() {
        return plan.isThere() ? everyRow().found : NO_SUCH;
    }

    public int always(int what) {
        if (!plan.isThere() || !isBit(what)) {
            return NO_SUCH;
        }
        return what == 0 ? everyRow().inAll : everyRow().inSome;
    }

    public int slack(int official) {
        return plan.hasOfficial(official) ? soonRows().spareHours(official) : NO_SUCH;
    }

    public int start(int what) {
        if (!plan.isThere() || !isBit(what)) {
            return NO_SUCH;
        }
        if (!startKnown) {
            findStart();
        }
        return what == 0 ? startFirst : startTakes;
    }

    public int forged(int official) {
        if (!plan.hasOfficial(official)) {
            return NO_SUCH_FORGED;
        }
        return soonerBy(official, soonRows().best(SOONEST));
    }

    public int fake() {
        if (!plan.isThere()) {
            return NO_SUCH;
        }
        int honest = soonRows().best(SOONEST);
        int most = 0;
        int whose = NONE;
        for (int i = 0; i < plan.officials; i++) {
            int hours = soonerBy(i, honest);
            if (hours > most) {
                most = hours;
                whose = i;
            }
        }
        return whose;
    }

    // ---- sets, by needs and bars alone

    public int possible(int set) {
        if (!plan.hasSet(set)) {
            return NO_SUCH;
        }
        return knownSets().ordersOf(set) > 0 ? 1 : 0;
    }

    public int sets() {
        return plan.isThere() ? knownSets().howMany() : NO_SUCH;
    }

    public int never() {
        return plan.isThere() ? knownSets().outsiders() : NO_SUCH;
    }

    public int ring() {
        return plan.isThere() ? knownSets().rounds() : NO_SUCH;
    }

    public int depth(int official) {
        return plan.hasOfficial(official) ? knownSets().longestChain(official) : NO_SUCH;
    }

    public long orders(int set) {
        return plan.hasSet(set) ? knownSets().ordersOf(set) : NO_SUCH;
    }

    public int loose() {
        if (!plan.isThere()) {
            return NO_SUCH;
        }
        loose.weigh(plan);
        return loose.dropped();
    }

    public int loosely(int i) {
        if (!plan.isThere()) {
            return NO_SUCH;
        }
        loose.weigh(plan);
        return loose.officialAt(i);
    }

    public int parted() {
        return plan.isThere() ? knownSets().firstParting(plan.permit) : NO_SUCH;
    }

    // ---- a slot's row as an order

    public int judge(int slot) {
        int refused = refusal(slot);
        if (refused != 0) {
            return refused;
        }
        int stamped = 0;
        for (int i = 0; i < slots.lengthOf(slot); i++) {
            int official = slots.officialAt(slot, i);
            if (!plan.mayStamp(official, stamped)) {
                return i;
            }
            stamped |= 1 << official;
        }
        return slots.lengthOf(slot);
    }

    public int bribed(int slot) {
        int refused = refusal(slot);
        if (refused != 0) {
            return refused;
        }
        int stamped = 0;
        int wrong = 0;
        for (int i = 0; i < slots.lengthOf(slot); i++) {
            int official = slots.officialAt(slot, i);
            if (!plan.mayStamp(official, stamped)) {
                wrong |= 1 << official;
            }
            stamped |= 1 << official;
        }
        return wrong;
    }

    public int run(int slot) {
        int refused = refusal(slot);
        if (refused != 0) {
            return refused;
        }
        queue.serve(slots, slot, 1);
        return queue.lastThrough(1);
    }

    public int queue(int slot, int n) {
        if (n < 1 || n > MOST_QUEUE) {
            return NO_SUCH;
        }
        int refused = refusal(slot);
        if (refused != 0) {
            return refused;
        }
        queue.serve(slots, slot, n);
        return queue.lastThrough(n);
    }

    public int served(int slot, int hour) {
        if (hour < 0 || hour > HOURS) {
            return NO_SUCH;
        }
        int refused = refusal(slot);
        if (refused != 0) {
            return refused;
        }
        queue.serve(slots, slot, MOST_QUEUE);
        return queue.throughBy(hour);
    }

    public int chair(int slot) {
        int refused = refusal(slot);
        if (refused != 0) {
            return refused;
        }
        queue.serve(slots, slot, MOST_QUEUE);
        return queue.lastThrough(MOST_QUEUE) == NONE ? NONE : queue.longestWaitedAt();
    }

    // ---- blind goes

    public int blind(int seed) {
        if (!plan.isThere() || !isSeed(seed)) {
            return NO_SUCH;
        }
        blind.goFrom(walker, seed);
        return blind.hour;
    }

    public int tries(int seed) {
        if (!plan.isThere() || !isSeed(seed)) {
            return NO_SUCH;
        }
        blind.goFrom(walker, seed);
        return blind.goneTo;
    }

    public int luck(int seed, int n) {
        if (!plan.isThere() || !isSeed(seed) || n < 1 || n > MOST_LUCK) {
            return NO_SUCH;
        }
        int lucky = 0;
        for (int i = 0; i < n; i++) {
            blind.goFrom(walker, seed + i);
            if (blind.hour != NONE) {
                lucky++;
            }
        }
        return lucky;
    }

    public int worth(int seed, int n, int what) {
        if (!plan.isThere() || !isSeed(seed) || n < 1 || n > MOST_LUCK || !isBit(what)) {
            return NO_SUCH;
        }
        int soonestHour = soonRows().best(SOONEST);
        int hours = 0;
        int lucky = 0;
        for (int i = 0; i < n; i++) {
            blind.goFrom(walker, seed + i);
            if (blind.hour != NONE) {
                lucky++;
                hours += blind.hour - soonestHour;
            }
        }
        if (lucky == 0) {
            return NONE;
        }
        int common = commonDivisor(hours, lucky);
        if (common == 0) {
            return NONE;
        }
        return what == 0 ? hours / common : lucky / common;
    }

    // ---- another office

    public int ask(int official, int other, int what, int is) {
        if (!plan.hasOfficial(official) || !plan.hasOfficial(other) || official == other) {
            return NO_SUCH;
        }
        if (!isBit(what) || !isBit(is)) {
            return NO_SUCH;
        }
        if (plan.moved > 0) {
            return NOT_NOW;
        }
        int[] asking = plan.told[NEEDS + what];
        int was = asking[official] >> other & 1;
        if (was != is) {
            asking[official] ^= 1 << other;
        }
        forgetAll();
        return was;
    }

    public int leave(int official, int from, int to) {
        boolean none = from == NONE && to == NONE;
        boolean days = from >= 0 && from <= to && to < DAYS_IN_ALL;
        if (!plan.hasOfficial(official) || !none && !days) {
            return NO_SUCH;
        }
        if (plan.moved > 0) {
            return NOT_NOW;
        }
        plan.told[LEAVE_FROM][official] = from;
        plan.told[LEAVE_TO][official] = to;
        planChanged();
        return 0;
    }

    public int wants(int set) {
        if (!plan.hasSet(set)) {
            return NO_SUCH;
        }
        int was = plan.permit;
        plan.permit = set;
        forgetAll();
        return was;
    }

    public int count(int what) {
        switch (what) {
            case 0:
                return plan.officials;
            case 1:
                return plan.rooms;
            case 2:
                return plan.countAsked(NEEDS);
            case 3:
                return plan.countAsked(BARS);
            case 4:
                return plan.lines;
            case 5:
                return tape.length;
            case 6:
                return plan.moved;
            case 7:
                return plan.startHour;
            case 8:
                return slots.howMany();
            default:
                return NONE;
        }
    }

    public int keep(int k) {
        if (k < 0 || k >= images.length) {
            return NO_SUCH;
        }
        if (images[k] == null) {
            images[k] = new Plan();
        }
        images[k].copyFrom(plan);
        return 0;
    }

    public int back(int k) {
        if (k < 0 || k >= images.length) {
            return NO_SUCH;
        }
        if (images[k] == null) {
            return NOTHING;
        }
        plan.copyFrom(images[k]);
        planChanged();
        return 0;
    }

    // ---- slots

    public int row(int slot, int width, int n) {
        if (!slots.isSlot(slot) || width < 0 || width >= Slots.WIDTHS || n > Slots.MOST_NUMBERS) {
            return NO_SUCH;
        }
        if (n < 0) {
            return BELOW_ZERO;
        }
        slots.lay(slot, width, n);
        return 0;
    }

    public int write(int slot, int i, long v) {
        if (!slots.isSlot(slot)) {
            return NO_SUCH;
        }
        if (!slots.hasRow(slot)) {
            return NOTHING;
        }
        return slots.set(slot, i, v) ? 0 : NO_PLACE;
    }

    public int paste(int slot, int i, int to, int k, int n) {
        if (!slots.isSlot(slot) || !slots.isSlot(to)) {
            return NO_SUCH;
        }
        if (!slots.hasRow(slot) || !slots.hasRow(to)) {
            return NOTHING;
        }
        if (slots.widthOf(slot) != slots.widthOf(to)) {
            return UNLIKE_WIDTHS;
        }
        if (!slots.reaches(slot, i, n) || !slots.reaches(to, k, n)) {
            return NO_PLACE;
        }
        slots.copy(slot, i, to, k, n);
        return 0;
    }

    // ---- what several of these ask

    private static boolean isBit(int what) {
        return what == 0 || what == 1;
    }

    private static boolean hasBit(int set, int i) {
        return (set >> i & 1) != 0;
    }

    private static boolean isHour(int hour) {
        return hour >= 0 && hour < HOURS;
    }

    private static boolean isSeed(int seed) {
        return seed >= 0 && seed <= MOST_SEED;
    }

    private static int commonDivisor(int a, int b) {
        int more = a;
        int less = b;
        // each second rest is below half, so 64 rounds are more than an int can need
        for (int i = 0; i < 64 && less != 0; i++) {
            int rest = more % less;
            more = less;
            less = rest;
        }
        return more;
    }

    private void planChanged() {
        table.drawUp(plan);
        startKnown = false;
        retrace();
    }

    private void retrace() {
        walker.beginAt(plan.startHour);
        for (int i = 0; i < plan.moved; i++) {
            int move = plan.moves[i];
            if (move < WAITED) {
                walker.stampIn(move, walker.stampHour(move));
            } else {
                walker.hour += move - WAITED;
            }
        }
        forgetRows();
    }

    private void forgetAll() {
        startKnown = false;
        forgetRows();
    }

    private void forgetRows() {
        soon.known = false;
        every.known = false;
    }

    private Rows soonRows() {
        if (!soon.known) {
            soon.search(walker, NONE, false);
        }
        return soon;
    }

    private Rows everyRow() {
        if (!every.known) {
            every.search(walker, NONE, true);
        }
        return every;
    }

    private Sets knownSets() {
        sets.learn(plan);
        return sets;
    }

    private void findStart() {
        startFirst = NONE;
        startTakes = NONE;
        for (int hour = 0; hour < WEEK_HOURS; hour++) {
            spare.beginAt(hour);
            trial.search(spare, NONE, false);
            int takes = trial.best(SOONEST) - hour;
            if (trial.found > 0 && (startFirst == NONE || takes < startTakes)) {
                startFirst = hour;
                startTakes = takes;
            }
        }
        startKnown = true;
    }

    private int soonerBy(int official, int honest) {
        if (honest == NONE) {
            return NOT_FORGED;
        }
        trial.search(walker, official, false);
        int forged = trial.best(SOONEST);
        return forged == NONE ? NOT_FORGED : honest - forged;
    }

    /** Why a SLOT's row can't be gone by, 0 if it can. */
    private int refusal(int slot) {
        if (!slots.isSlot(slot) || !plan.isThere()) {
            return NO_SUCH;
        }
        if (!slots.hasRow(slot)) {
            return NOTHING;
        }
        return slots.areBelow(slot, plan.officials) ? 0 : NO_SUCH;
    }

    /** The bytes that were fed, and the TOKENS in them, one at a time. */
    private static final class Tape {
        static final int END = 0;
        static final int WORD = 1;
        static final int NUMBER = 2;
        static final int SIGN = 3;
        static final int STRANGE = 4;
        /** Beyond every bound, so that a long number stays beyond and never wraps. */
        static final int BIG = 100000;

        final byte[] bytes = new byte[MOST_BYTES];
        int length;
        int kind;
        int from;
        int to;
        int number;

        void put(int four) {
            for (int shift = 24; shift >= 0; shift -= 8) {
                if (length < bytes.length) {
                    bytes[length] = (byte) (four >> shift);
                    length++;
                }
            }
        }

        void rewind() {
            to = 0;
            advance();
        }

        void advance() {
            from = to;
            while (from < length && (bytes[from] == ' ' || bytes[from] == '\n')) {
                from++;
            }
            to = from;
            number = 0;
            while (to < length && bytes[to] >= 'a' && bytes[to] <= 'z') {
                to++;
            }
            if (to > from) {
                kind = WORD;
                return;
            }
            while (to < length && bytes[to] >= '0' && bytes[to] <= '9') {
                number = Math.min(BIG, number * 10 + bytes[to] - '0');
                to++;
            }
            if (to > from) {
                kind = NUMBER;
                return;
            }
            if (from >= length) {
                kind = END;
                return;
            }
            kind = bytes[from] == ';' ? SIGN : STRANGE;
            to = from + 1;
        }

        boolean isWord(String word) {
            if (kind != WORD || to - from != word.length()) {
                return false;
            }
            for (int i = 0; i < word.length() && from + i < length; i++) {
                if (bytes[from + i] != word.charAt(i)) {
                    return false;
                }
            }
            return true;
        }
    }

    /** Reads a TAPE as an OFFICE, up to the first FAULT. */
    private static final class Reader {
        static final int MISPLACED = 1;
        static final int NOT_AS_SAID = 2;
        static final int TOO_MANY = 3;
        static final int MARKS = 3;

        final Tape tape;
        final Plan plan = new Plan();
        int fault;
        int place = NONE;

        Reader(Tape tape) {
            this.tape = tape;
        }

        void readAll() {
            plan.clear();
            fault = 0;
            place = NONE;
            tape.rewind();
            for (int i = 0; i < MOST_BYTES && fault == 0 && tape.kind != Tape.END; i++) {
                readLine();
            }
        }

        private void readLine() {
            boolean head = tape.isWord("office");
            if (head != (plan.lines == 0)) {
                blame(MISPLACED);
            } else if (head) {
                readHead();
            } else if (tape.isWord("official")) {
                readOfficial();
            } else if (tape.isWord("way")) {
                readWay();
            } else if (tape.isWord("needs")) {
                readAsking(NEEDS);
            } else if (tape.isWord("bars")) {
                readAsking(BARS);
            } else if (tape.isWord("leave")) {
                readLeave();
            } else if (tape.isWord("permit")) {
                readPermit();
            } else {
                blame(MISPLACED);
            }
            takeSign();
        }

        private void readHead() {
            tape.advance();
            plan.rooms = takeAfter("rooms", 1, MOST_ROOMS);
            plan.startRoom = takeAfter("in", 0, plan.rooms - 1);
            plan.startHour = takeAfter("at", 0, HOURS - 1);
        }

        private void readOfficial() {
            int official = plan.officials;
            if (official >= MOST_OFFICIALS) {
                blame(TOO_MANY);
                return;
            }
            tape.advance();
            tell(ROOM, takeAfter("room", 0, plan.rooms - 1));
            int opens = takeAfter("from", 0, DAY_HOURS - 1);
            tell(OPENS, opens);
            tell(SHUTS, takeAfter("to", opens, DAY_HOURS - 1));
            tell(DAYS, takeAfter("days", 1, (1 << WEEK_DAYS) - 1));
            tell(LUNCH, NONE);
            tell(FADES, NONE);
            tell(PRICE, NONE);
            tell(LEAVE_FROM, NONE);
            tell(LEAVE_TO, NONE);
            for (int i = 0; i < MARKS; i++) {
                readMark("lunch", LUNCH, 0, DAY_HOURS - 1);
                readMark("fades", FADES, 1, 20);
                readMark("price", PRICE, 0, 99);
            }
            if (plan.told[PRICE][official] == NONE) {
                tell(PRICE, 0);
            }
            plan.officials++;
        }

        /** A MARK that is there already stays unread: no sign that could end the LINE. */
        private void readMark(String word, int what, int lowest, int highest) {
            int official = plan.officials;
            if (fault == 0 && official < MOST_OFFICIALS && plan.told[what][official] == NONE && tape.isWord(word)) {
                tape.advance();
                tell(what, takeNumber(lowest, highest));
            }
        }

        /** Of the OFFICIAL that is being read. */
        private void tell(int what, int number) {
            if (plan.officials < MOST_OFFICIALS) {
                plan.told[what][plan.officials] = number;
            }
        }

        private void readWay() {
            tape.advance();
            int room = takeNumber(0, plan.rooms - 1);
            int other = takeNumberBut(1 << room, plan.rooms - 1);
            int hours = takeNumber(1, 9);
            if (fault == 0) {
                plan.ways[room][other] = hours;
                plan.ways[other][room] = hours;
            }
        }

        private void readAsking(int what) {
            tape.advance();
            int official = takeNumber(0, plan.officials - 1);
            int other = takeNumberBut(1 << official | plan.told[what][official], plan.officials - 1);
            if (fault == 0) {
                plan.told[what][official] |= 1 << other;
            }
        }

        private void readLeave() {
            tape.advance();
            int official = takeNumber(0, plan.officials - 1);
            int from = takeAfter("from", 0, DAYS_IN_ALL - 1);
            int to = takeAfter("to", from, DAYS_IN_ALL - 1);
            if (fault == 0) {
                plan.told[LEAVE_FROM][official] = from;
                plan.told[LEAVE_TO][official] = to;
            }
        }

        private void readPermit() {
            tape.advance();
            int set = 1 << takeNumber(0, plan.officials - 1);
            for (int i = 0; i < MOST_BYTES && fault == 0 && tape.kind == Tape.NUMBER; i++) {
                set |= 1 << takeNumber(0, plan.officials - 1);
            }
            plan.permit = set;
        }

        private void takeSign() {
            if (fault != 0) {
                return;
            }
            if (tape.kind != Tape.SIGN) {
                blame(MISPLACED);
                return;
            }
            tape.advance();
            plan.lines++;
        }

        private int takeAfter(String word, int lowest, int highest) {
            if (fault != 0) {
                return 0;
            }
            if (!tape.isWord(word)) {
                return blame(MISPLACED);
            }
            tape.advance();
            return takeNumber(lowest, highest);
        }

        private int takeNumberBut(int struck, int highest) {
            boolean fits = tape.kind == Tape.NUMBER && tape.number <= highest;
            if (fault == 0 && fits && hasBit(struck, tape.number)) {
                return blame(NOT_AS_SAID);
            }
            return takeNumber(0, highest);
        }

        /** 0 with a FAULT, so that what is read on stays within every row. */
        private int takeNumber(int lowest, int highest) {
            if (fault != 0) {
                return 0;
            }
            if (tape.kind != Tape.NUMBER) {
                return blame(MISPLACED);
            }
            if (tape.number < lowest || tape.number > highest) {
                return blame(NOT_AS_SAID);
            }
            int number = tape.number;
            tape.advance();
            return number;
        }

        private int blame(int what) {
            fault = what;
            place = tape.from;
            return 0;
        }
    }

    /** An OFFICE as it was told, and who was gone to in it: what an IMAGE keeps. */
    private static final class Plan {
        int lines;
        int rooms;
        int startRoom;
        int startHour;
        int officials;
        int permit;
        int moved;
        final int[] moves = new int[MOST_MOVES];
        final int[][] told = new int[FACTS][MOST_OFFICIALS];
        final int[][] ways = new int[MOST_ROOMS][MOST_ROOMS];

        void clear() {
            lines = 0;
            rooms = 0;
            startRoom = 0;
            startHour = 0;
            officials = 0;
            permit = 0;
            moved = 0;
            for (int i = 0; i < FACTS; i++) {
                Arrays.fill(told[i], 0);
            }
            for (int i = 0; i < MOST_ROOMS; i++) {
                Arrays.fill(ways[i], 0);
            }
        }

        void copyFrom(Plan other) {
            lines = other.lines;
            rooms = other.rooms;
            startRoom = other.startRoom;
            startHour = other.startHour;
            officials = other.officials;
            permit = other.permit;
            moved = other.moved;
            System.arraycopy(other.moves, 0, moves, 0, MOST_MOVES);
            for (int i = 0; i < FACTS; i++) {
                System.arraycopy(other.told[i], 0, told[i], 0, MOST_OFFICIALS);
            }
            for (int i = 0; i < MOST_ROOMS; i++) {
                System.arraycopy(other.ways[i], 0, ways[i], 0, MOST_ROOMS);
            }
        }

        boolean isThere() {
            return lines > 0;
        }

        boolean hasOfficial(int official) {
            return official >= 0 && official < officials && official < MOST_OFFICIALS;
        }

        boolean hasRoom(int room) {
            return room >= 0 && room < rooms && room < MOST_ROOMS;
        }

        boolean hasSet(int set) {
            return isThere() && set >= 0 && set < 1 << officials;
        }

        /** False, and nothing is noted, if there were as many as there may be. */
        boolean noteMove(int move) {
            if (moved < 0 || moved >= MOST_MOVES) {
                return false;
            }
            moves[moved] = move;
            moved++;
            return true;
        }

        boolean isOpen(int official, int hour) {
            if (!hasOfficial(official)) {
                return false;
            }
            int day = hour / DAY_HOURS;
            boolean away = day >= told[LEAVE_FROM][official] && day <= told[LEAVE_TO][official];
            return !away && isOffered(official, hour);
        }

        /** Whether it would be OPEN, were it never on leave. */
        boolean isOffered(int official, int hour) {
            if (!hasOfficial(official) || hour < 0) {
                return false;
            }
            int ofDay = hour % DAY_HOURS;
            return hasBit(told[DAYS][official], hour / DAY_HOURS % WEEK_DAYS)
                    && ofDay >= told[OPENS][official]
                    && ofDay <= told[SHUTS][official]
                    && ofDay != told[LUNCH][official];
        }

        /** Hours aside, where so many have stamped. */
        boolean mayStamp(int official, int stamped) {
            return hasOfficial(official)
                    && !hasBit(stamped, official)
                    && (told[NEEDS][official] & ~stamped) == 0
                    && (told[BARS][official] & stamped) == 0;
        }

        int countAsked(int what) {
            int asked = 0;
            for (int i = 0; i < officials; i++) {
                asked += Integer.bitCount(told[what][i]);
            }
            return asked;
        }
    }

    /** What follows from an OFFICE alone: its WALKS, and when each is OPEN next. */
    private static final class Timetable {
        final int[][] walks = new int[MOST_ROOMS][MOST_ROOMS];
        final int[][] next = new int[MOST_OFFICIALS][HOURS];

        void drawUp(Plan plan) {
            layWays(plan);
            shortenWalks(plan.rooms);
            for (int i = 0; i < plan.officials; i++) {
                int first = NONE;
                for (int hour = HOURS - 1; hour >= 0; hour--) {
                    if (plan.isOpen(i, hour)) {
                        first = hour;
                    }
                    next[i][hour] = first;
                }
            }
        }

        private void layWays(Plan plan) {
            for (int i = 0; i < plan.rooms; i++) {
                for (int j = 0; j < plan.rooms; j++) {
                    walks[i][j] = plan.ways[i][j] > 0 ? plan.ways[i][j] : NONE;
                }
                walks[i][i] = 0;
            }
        }

        private void shortenWalks(int rooms) {
            for (int by = 0; by < rooms; by++) {
                for (int i = 0; i < rooms; i++) {
                    for (int j = 0; j < rooms; j++) {
                        shorten(i, by, j);
                    }
                }
            }
        }

        private void shorten(int from, int by, int to) {
            if (walks[from][by] == NONE || walks[by][to] == NONE) {
                return;
            }
            int hours = walks[from][by] + walks[by][to];
            if (walks[from][to] == NONE || walks[from][to] > hours) {
                walks[from][to] = hours;
            }
        }

        int hoursBetween(int room, int other) {
            if (room < 0 || room >= MOST_ROOMS || other < 0 || other >= MOST_ROOMS) {
                return NONE;
            }
            return walks[room][other];
        }

        int firstOpen(int official, int hour) {
            if (official < 0 || official >= MOST_OFFICIALS || hour < 0 || hour >= HOURS) {
                return NONE;
            }
            return next[official][hour];
        }
    }

    /** One who goes through an OFFICE: where, when, and how long each STAMP is held. */
    private static final class Walker {
        final Plan plan;
        final Timetable table;
        /** The last HOUR in which a STAMP is held, NONE without one. */
        final int[] lastHours = new int[MOST_OFFICIALS];
        int hour;
        int room;
        int walked;
        int spent;

        Walker(Plan plan, Timetable table) {
            this.plan = plan;
            this.table = table;
            Arrays.fill(lastHours, NONE);
        }

        void beginAt(int start) {
            hour = start;
            room = plan.startRoom;
            walked = 0;
            spent = 0;
            Arrays.fill(lastHours, NONE);
        }

        /** Stands where another does, having walked and paid nothing yet. */
        void joins(Walker other) {
            hour = other.hour;
            room = other.room;
            walked = 0;
            spent = 0;
            System.arraycopy(other.lastHours, 0, lastHours, 0, MOST_OFFICIALS);
        }

        int lastHeld(int official) {
            return official >= 0 && official < MOST_OFFICIALS ? lastHours[official] : NONE;
        }

        boolean holds(int official) {
            return lastHeld(official) >= hour;
        }

        int holding() {
            int set = 0;
            for (int i = 0; i < MOST_OFFICIALS; i++) {
                if (lastHours[i] >= hour) {
                    set |= 1 << i;
                }
            }
            return set;
        }

        int missing() {
            return plan.permit & ~holding();
        }

        /** The HOUR in which one is at an OFFICIAL's, gone to now. NONE: there is no way. */
        int arrival(int official) {
            if (!plan.hasOfficial(official)) {
                return NONE;
            }
            int walk = table.hoursBetween(room, plan.told[ROOM][official]);
            return walk == NONE ? NONE : hour + walk;
        }

        /** The first HOUR, once one is there, in which no STAMP that it BARS is held. */
        int unbarred(int official, int arrival) {
            int first = arrival;
            int barred = plan.hasOfficial(official) ? plan.told[BARS][official] : 0;
            for (int i = 0; i < MOST_OFFICIALS && barred >> i != 0; i++) {
                if (hasBit(barred, i)) {
                    first = Math.max(first, lastHours[i] + 1);
                }
            }
            return first;
        }

        /** The last HOUR in which all that it NEEDS are held. */
        int supported(int official) {
            int last = HOURS - 1;
            int needed = plan.hasOfficial(official) ? plan.told[NEEDS][official] : 0;
            for (int i = 0; i < MOST_OFFICIALS && needed >> i != 0; i++) {
                if (hasBit(needed, i)) {
                    last = Math.min(last, lastHours[i]);
                }
            }
            return last;
        }

        int stampHour(int official) {
            int arrival = arrival(official);
            if (arrival == NONE || holds(official)) {
                return NONE;
            }
            int first = table.firstOpen(official, unbarred(official, arrival));
            return first <= supported(official) ? first : NONE;
        }

        int obstacle(int official) {
            if (holds(official)) {
                return 1;
            }
            int arrival = arrival(official);
            if (arrival == NONE) {
                return 2;
            }
            int first = table.firstOpen(official, arrival);
            if (first == NONE) {
                return 3;
            }
            if (first > supported(official)) {
                return 4;
            }
            return stampHour(official) == NONE ? 5 : 0;
        }

        int willing() {
            int set = 0;
            for (int i = 0; i < plan.officials; i++) {
                if (stampHour(i) != NONE) {
                    set |= 1 << i;
                }
            }
            return set;
        }

        void stampIn(int official, int stampHour) {
            if (!plan.hasOfficial(official) || stampHour == NONE) {
                return;
            }
            int target = plan.told[ROOM][official];
            int days = plan.told[FADES][official];
            walked += table.hoursBetween(room, target);
            spent += plan.told[PRICE][official];
            lastHours[official] = days == NONE ? FOREVER : stampHour + DAY_HOURS * days;
            room = target;
            hour = stampHour + 1;
        }
    }

    /** All rows of OFFICIALS by which it is DONE, the least ones first. */
    private static final class Rows {
        final Walker walker;
        final int[] row = new int[MOST_OFFICIALS];
        final int[] values = new int[AIMS];
        final int[] lengths = new int[AIMS];
        final int[][] firsts = new int[AIMS][MOST_OFFICIALS];
        final int[] lastHours = new int[MOST_OFFICIALS];
        boolean known;
        boolean all;
        int heldAtFirst;
        int used;
        int found;
        int fewestOfficials;
        int inAll;
        int inSome;

        Rows(Walker walker) {
            this.walker = walker;
        }

        /** From where one stands, a forged STAMP held for ever (NONE: none is); all rows, or soonest ones alone. */
        void search(Walker from, int forged, boolean wantsAll) {
            walker.joins(from);
            if (forged >= 0 && forged < MOST_OFFICIALS) {
                walker.lastHours[forged] = FOREVER;
            }
            all = wantsAll;
            heldAtFirst = walker.holding();
            used = heldAtFirst;
            found = 0;
            fewestOfficials = NONE;
            inAll = 0;
            inSome = 0;
            if ((walker.plan.permit & ~obtainable()) == 0) {
                follow(this, 0);
            }
            known = true;
        }

        int best(int aim) {
            return found > 0 ? values[aim] : NONE;
        }

        int officialAt(int aim, int i) {
            return found > 0 && i >= 0 && i < lengths[aim] ? firsts[aim][i] : NONE;
        }

        int officialsOf(int aim) {
            if (found == 0) {
                return NONE;
            }
            int set = 0;
            for (int i = 0; i < lengths[aim]; i++) {
                set |= 1 << firsts[aim][i];
            }
            return set;
        }

        int spareHours(int official) {
            if (found == 0 || official < 0 || official >= MOST_OFFICIALS || !hasBit(officialsOf(SOONEST), official)) {
                return NONE;
            }
            int last = lastHours[official];
            return last == FOREVER || last < values[SOONEST] ? NONE : last - values[SOONEST];
        }

        /** No row has another one: spares the search where one of the PERMIT is out of reach anyway. */
        private int obtainable() {
            int set = heldAtFirst;
            for (int round = 0; round < MOST_OFFICIALS; round++) {
                for (int i = 0; i < walker.plan.officials; i++) {
                    int arrival = walker.arrival(i);
                    boolean opens = arrival != NONE && walker.table.firstOpen(i, arrival) != NONE;
                    if (opens && (walker.plan.told[NEEDS][i] & ~set) == 0) {
                        set |= 1 << i;
                    }
                }
            }
            return set;
        }

        private static void follow(Rows rows, int depth) {
            Walker walker = rows.walker;
            int missing = walker.missing();
            if (missing == 0) {
                rows.take(depth);
                return;
            }
            if (depth >= MOST_OFFICIALS || rows.isHopeless(missing, depth)) {
                return;
            }
            int hour = walker.hour;
            int room = walker.room;
            int walked = walker.walked;
            int spent = walker.spent;
            for (int i = 0; i < walker.plan.officials && i < MOST_OFFICIALS; i++) {
                int stampHour = hasBit(rows.used, i) ? NONE : walker.stampHour(i);
                if (stampHour != NONE) {
                    int lastHour = walker.lastHours[i];
                    rows.row[depth] = i;
                    rows.used |= 1 << i;
                    walker.stampIn(i, stampHour);
                    follow(rows, depth + 1);
                    walker.lastHours[i] = lastHour;
                    walker.hour = hour;
                    walker.room = room;
                    walker.walked = walked;
                    walker.spent = spent;
                    rows.used &= ~(1 << i);
                }
            }
        }

        /** Who was gone to is not gone to again, who is barred for good never; each takes an HOUR at least. */
        private boolean isHopeless(int missing, int depth) {
            if ((missing & used) != 0) {
                return true;
            }
            for (int i = 0; i < MOST_OFFICIALS; i++) {
                if (hasBit(missing, i) && walker.unbarred(i, walker.hour) >= HOURS) {
                    return true;
                }
            }
            if (all || found == 0) {
                return false;
            }
            int more = Integer.bitCount(missing);
            return !isBetter(SOONEST, walker.hour + more, depth + more);
        }

        /** Rows come in their order: of like ones the first stays. */
        private boolean isBetter(int aim, int value, int length) {
            return found == 0 || value < values[aim] || value == values[aim] && length < lengths[aim];
        }

        private void take(int length) {
            int set = used & ~heldAtFirst;
            if (isBetter(SOONEST, walker.hour, length)) {
                put(SOONEST, walker.hour, length);
                System.arraycopy(walker.lastHours, 0, lastHours, 0, MOST_OFFICIALS);
            }
            if (isBetter(LEAST, walker.walked, length)) {
                put(LEAST, walker.walked, length);
            }
            if (isBetter(CHEAPEST, walker.spent, length)) {
                put(CHEAPEST, walker.spent, length);
            }
            fewestOfficials = found == 0 ? length : Math.min(fewestOfficials, length);
            inAll = found == 0 ? set : inAll & set;
            inSome |= set;
            found++;
        }

        private void put(int aim, int value, int length) {
            values[aim] = value;
            lengths[aim] = length;
            System.arraycopy(row, 0, firsts[aim], 0, MOST_OFFICIALS);
        }
    }

    /** Which sets can have stamped by NEEDS and BARS alone, and in how many orders. */
    private static final class Sets {
        final int[] needs = new int[MOST_OFFICIALS];
        final int[] bars = new int[MOST_OFFICIALS];
        final long[] orders = new long[MOST_SETS];
        final int[] reached = new int[MOST_OFFICIALS];
        final int[] chains = new int[MOST_OFFICIALS];
        int officials;
        int size;

        void learn(Plan plan) {
            officials = Math.min(plan.officials, MOST_OFFICIALS);
            size = 1 << officials;
            System.arraycopy(plan.told[NEEDS], 0, needs, 0, MOST_OFFICIALS);
            System.arraycopy(plan.told[BARS], 0, bars, 0, MOST_OFFICIALS);
            countOrders();
        }

        private void countOrders() {
            orders[0] = 1;
            for (int set = 1; set < size; set++) {
                long sum = 0;
                for (int i = 0; i < officials; i++) {
                    int ahead = set & ~(1 << i);
                    if (ahead != set && (needs[i] & ~ahead) == 0 && (bars[i] & ahead) == 0) {
                        sum += orders[ahead];
                    }
                }
                orders[set] = sum;
            }
        }

        long ordersOf(int set) {
            return set >= 0 && set < size ? orders[set] : 0;
        }

        int howMany() {
            int many = 0;
            for (int set = 0; set < size; set++) {
                if (orders[set] > 0) {
                    many++;
                }
            }
            return many;
        }

        int outsiders() {
            int inside = 0;
            for (int set = 0; set < size; set++) {
                if (orders[set] > 0) {
                    inside |= set;
                }
            }
            return size - 1 & ~inside;
        }

        private boolean canBeHad(int permit) {
            for (int set = 0; set < size; set++) {
                if (orders[set] > 0 && (permit & ~set) == 0) {
                    return true;
                }
            }
            return false;
        }

        private void followNeeds() {
            System.arraycopy(needs, 0, reached, 0, MOST_OFFICIALS);
            for (int by = 0; by < officials; by++) {
                for (int i = 0; i < officials; i++) {
                    if (hasBit(reached[i], by)) {
                        reached[i] |= reached[by];
                    }
                }
            }
        }

        int rounds() {
            followNeeds();
            int set = 0;
            for (int i = 0; i < officials; i++) {
                if (hasBit(reached[i], i)) {
                    set |= 1 << i;
                }
            }
            return set;
        }

        int longestChain(int official) {
            int round = rounds();
            if (official < 0 || official >= officials || ((reached[official] | 1 << official) & round) != 0) {
                return NONE;
            }
            Arrays.fill(chains, 1);
            for (int pass = 1; pass < officials; pass++) {
                lengthenChains();
            }
            return chains[official];
        }

        private void lengthenChains() {
            for (int i = 0; i < officials; i++) {
                for (int j = 0; j < officials; j++) {
                    if (hasBit(needs[i], j)) {
                        chains[i] = Math.max(chains[i], chains[j] + 1);
                    }
                }
            }
        }

        int firstParting(int permit) {
            if (canBeHad(permit)) {
                return NONE;
            }
            int first = firstPartingOf(needs, permit);
            if (first != NONE) {
                return first;
            }
            int second = firstPartingOf(bars, permit);
            return second == NONE ? NONE : 100 + second;
        }

        private int firstPartingOf(int[] asked, int permit) {
            for (int i = 0; i < officials; i++) {
                for (int j = 0; j < officials; j++) {
                    if (hasBit(asked[i], j) && isHadWithout(asked, i, j, permit)) {
                        return 10 * i + j;
                    }
                }
            }
            return NONE;
        }

        private boolean isHadWithout(int[] asked, int i, int j, int permit) {
            asked[i] ^= 1 << j;
            countOrders();
            asked[i] ^= 1 << j;
            return canBeHad(permit);
        }
    }

    /** LOOSE: for each set that has stamped, what it takes from there on till all of the PERMIT did. */
    private static final class Loose {
        final int[] costs = new int[MOST_SETS];
        final int[] lengths = new int[MOST_SETS];
        final int[] picks = new int[MOST_SETS];

        void weigh(Plan plan) {
            for (int set = Math.min(1 << plan.officials, MOST_SETS) - 1; set >= 0; set--) {
                costs[set] = 0;
                lengths[set] = 0;
                picks[set] = NONE;
                if ((plan.permit & ~set) != 0) {
                    pick(plan, set);
                }
            }
        }

        private void pick(Plan plan, int set) {
            for (int i = 0; i < plan.officials; i++) {
                int then = set | 1 << i;
                if (then != set && then < MOST_SETS) {
                    int cost = costs[then] + Integer.bitCount(plan.told[NEEDS][i] & ~set)
                            + Integer.bitCount(plan.told[BARS][i] & set);
                    int length = lengths[then] + 1;
                    boolean fewer = cost < costs[set] || cost == costs[set] && length < lengths[set];
                    if (picks[set] == NONE || fewer) {
                        costs[set] = cost;
                        lengths[set] = length;
                        picks[set] = i;
                    }
                }
            }
        }

        int dropped() {
            return costs[0];
        }

        int officialAt(int i) {
            if (i < 0 || i >= lengths[0]) {
                return NONE;
            }
            int set = 0;
            for (int k = 0; k < i && set < MOST_SETS && picks[set] != NONE; k++) {
                set |= 1 << picks[set];
            }
            return set < MOST_SETS ? picks[set] : NONE;
        }
    }

    /** The SLOTS, and the rows of numbers that they have. */
    private static final class Slots {
        static final int SLOTS = 4;
        static final int WIDTHS = 4;
        static final int MOST_NUMBERS = 60;

        final long[][] numbers = new long[SLOTS][MOST_NUMBERS];
        final int[] widths = new int[SLOTS];
        final int[] lengths = new int[SLOTS];

        Slots() {
            Arrays.fill(lengths, NONE);
        }

        boolean isSlot(int slot) {
            return slot >= 0 && slot < SLOTS;
        }

        boolean hasRow(int slot) {
            return isSlot(slot) && lengths[slot] != NONE;
        }

        int howMany() {
            int many = 0;
            for (int i = 0; i < SLOTS; i++) {
                if (hasRow(i)) {
                    many++;
                }
            }
            return many;
        }

        int widthOf(int slot) {
            return isSlot(slot) ? widths[slot] : NONE;
        }

        int lengthOf(int slot) {
            return hasRow(slot) ? lengths[slot] : 0;
        }

        void lay(int slot, int width, int n) {
            if (isSlot(slot) && n >= 0 && n <= MOST_NUMBERS) {
                widths[slot] = width;
                lengths[slot] = n;
                Arrays.fill(numbers[slot], 0);
            }
        }

        boolean set(int slot, int i, long v) {
            if (i < 0 || i >= lengthOf(slot)) {
                return false;
            }
            numbers[slot][i] = cut(v, widths[slot]);
            return true;
        }

        private static long cut(long v, int width) {
            switch (width) {
                case 0:
                    return (byte) v;
                case 1:
                    return (short) v;
                case 2:
                    return (int) v;
                default:
                    return v;
            }
        }

        boolean reaches(int slot, int i, int n) {
            int length = lengthOf(slot);
            return i >= 0 && n >= 0 && i <= length && n <= length - i;
        }

        void copy(int slot, int i, int to, int k, int n) {
            if (reaches(slot, i, n) && reaches(to, k, n) && hasRow(slot) && hasRow(to)) {
                System.arraycopy(numbers[slot], i, numbers[to], k, n);
            }
        }

        boolean areBelow(int slot, int bound) {
            for (int i = 0; i < lengthOf(slot); i++) {
                if (numbers[slot][i] < 0 || numbers[slot][i] >= bound) {
                    return false;
                }
            }
            return true;
        }

        int officialAt(int slot, int i) {
            return i >= 0 && i < lengthOf(slot) ? (int) numbers[slot][i] : NONE;
        }
    }

    /** QUEUE: some who go by a SLOT's row, each finding the HOURS of those ahead taken. */
    private static final class Queue {
        final Walker walker;
        final int[] taken = new int[HOURS];
        final int[] through = new int[MOST_QUEUE];
        final int[] waited = new int[MOST_OFFICIALS];
        int met;

        Queue(Walker walker) {
            this.walker = walker;
        }

        void serve(Slots slots, int slot, int n) {
            Arrays.fill(taken, 0);
            Arrays.fill(waited, 0);
            Arrays.fill(through, NONE);
            met = 0;
            for (int i = 0; i < n && i < MOST_QUEUE; i++) {
                through[i] = goBy(slots, slot);
            }
        }

        private int goBy(Slots slots, int slot) {
            walker.beginAt(walker.plan.startHour);
            for (int i = 0; i < slots.lengthOf(slot); i++) {
                if (!goTo(slots.officialAt(slot, i))) {
                    return NONE;
                }
            }
            return walker.hour;
        }

        private boolean goTo(int official) {
            int arrival = walker.arrival(official);
            if (arrival == NONE || walker.holds(official)) {
                return false;
            }
            int hour = firstFree(official, walker.unbarred(official, arrival));
            if (hour == NONE || hour > walker.supported(official)) {
                return false;
            }
            waited[official] += hour - arrival;
            met |= 1 << official;
            taken[hour] |= 1 << official;
            walker.stampIn(official, hour);
            return true;
        }

        private int firstFree(int official, int from) {
            int hour = walker.table.firstOpen(official, from);
            for (int i = 0; i < HOURS && isHour(hour) && hasBit(taken[hour], official); i++) {
                hour = walker.table.firstOpen(official, hour + 1);
            }
            return hour;
        }

        int lastThrough(int n) {
            int last = 0;
            for (int i = 0; i < n && i < MOST_QUEUE; i++) {
                if (through[i] == NONE) {
                    return NONE;
                }
                last = Math.max(last, through[i]);
            }
            return last;
        }

        int throughBy(int hour) {
            int many = 0;
            for (int i = 0; i < MOST_QUEUE; i++) {
                if (through[i] != NONE && through[i] <= hour) {
                    many++;
                }
            }
            return many;
        }

        int longestWaitedAt() {
            int most = NONE;
            for (int i = 0; i < MOST_OFFICIALS; i++) {
                if (hasBit(met, i) && (most == NONE || waited[i] > waited[most])) {
                    most = i;
                }
            }
            return most;
        }
    }

    /** BLIND: one who draws whom to go to. */
    private static final class Blind {
        final Walker walker;
        long x;
        int hour;
        int goneTo;

        Blind(Walker walker) {
            this.walker = walker;
        }

        void goFrom(Walker from, int seed) {
            walker.joins(from);
            x = seed;
            goneTo = 0;
            int aside = walker.holding();
            for (int i = 0; i < MOST_OFFICIALS && walker.missing() != 0; i++) {
                int willing = walker.willing() & ~aside;
                if (willing == 0) {
                    break;
                }
                int official = memberAt(willing, draw(Integer.bitCount(willing)));
                if (official == NONE) {
                    break;
                }
                aside |= 1 << official;
                goneTo++;
                walker.stampIn(official, walker.stampHour(official));
            }
            hour = walker.missing() == 0 ? walker.hour : NONE;
        }

        private int draw(int n) {
            x = (1103515245L * x + 12345L) % 2147483648L;
            return n > 0 ? (int) (x / 65536L % n) : 0;
        }

        /** The member of a set that has so many below it. */
        private static int memberAt(int set, int below) {
            int left = below;
            for (int i = 0; i < MOST_OFFICIALS; i++) {
                if (hasBit(set, i)) {
                    if (left == 0) {
                        return i;
                    }
                    left--;
                }
            }
            return NONE;
        }
    }
}
