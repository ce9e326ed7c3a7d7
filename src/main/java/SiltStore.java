/** A store of keys in sorted runs. ENTRIES are known everywhere inside by their AGES, which are never used again. */
public final class SiltStore {
    /** Each WRITE is a call of its own, so the calls that an object is used for bound the WRITES. */
    private static final int MOST_WRITES = 512;
    private static final int GREATEST_KEY = 9999;
    private static final int GREATEST_VALUE = 9999;
    private static final int LEVELS = 4;
    private static final int LAST_LEVEL = 3;
    private static final int LOG_ROOM = 40;
    private static final int MOST_SNAPSHOTS = 4;
    private static final int STONE = -1;
    private static final int NO_AGE = 0;
    private static final int SKIPS = 0;
    private static final int SEARCHES = 1;
    private static final int ALARMS = 2;
    private static final int WRITES = 3;
    private static final int MERGINGS = 4;
    private static final int LAID = 5;
    private static final int COUNTERS = 6;
    /** Far above what any SETTLING needs: each step brings ENTRIES one level down. */
    private static final int MOST_STEPS = 1000000;

    private int room = 4;
    private int way = 0;
    private int fan = 2;
    private int piece = 4;
    private int bits = 16;
    private int hashes = 2;
    private int every = 1;
    private final Row tally = new Row(COUNTERS);
    private final Row trial = new Row(COUNTERS);
    private final Row marks = new Row(LEVELS);
    private final Hand front = new Hand();
    private final Ledger ledger;
    private final Snapshots views;
    private final Shelf shelf;
    private final Pile pile;

    public SiltStore() {
        Ledger written = new Ledger();
        Snapshots taken = new Snapshots();
        ledger = written;
        views = taken;
        shelf = new Shelf(written);
        pile = new Pile(written, taken);
        for (int level = 0; level < LEVELS; level++) {
            marks.write(level, -1);
        }
    }

    // ---- what is set

    public int setRoom(int room) throws IllegalArgumentException {
        if (room < 1 || room > 16) {
            throw new IllegalArgumentException("room is 1 to 16");
        }
        int before = this.room;
        this.room = room;
        return before;
    }

    public int setWay(int way, int fan, int piece) throws IllegalArgumentException, IllegalStateException {
        if (way < 0 || way > 1) {
            throw new IllegalArgumentException("way is 0 or 1");
        }
        if (fan < 2 || fan > 4) {
            throw new IllegalArgumentException("fan is 2 to 4");
        }
        if (piece < 1 || piece > 20) {
            throw new IllegalArgumentException("piece is 1 to 20");
        }
        if (shelf.total() > 0) {
            throw new IllegalStateException("there are runs");
        }
        int before = this.way;
        this.way = way;
        this.fan = fan;
        this.piece = piece;
        return before;
    }

    public int setFilter(int bits, int hashes) throws IllegalArgumentException {
        if (bits != 0 && (bits < 4 || bits > 64)) {
            throw new IllegalArgumentException("bits is 0 or 4 to 64");
        }
        if (hashes < 1 || hashes > 3) {
            throw new IllegalArgumentException("hashes is 1 to 3");
        }
        int before = this.bits;
        this.bits = bits;
        this.hashes = hashes;
        return before;
    }

    public int setEvery(int every) throws IllegalArgumentException {
        if (every < 0 || every > 20) {
            throw new IllegalArgumentException("every is 0 to 20");
        }
        int before = this.every;
        this.every = every;
        return before;
    }

    // ---- writing

    public int put(int key, int value) throws IllegalArgumentException {
        checkKey(key);
        if (value < 0 || value > GREATEST_VALUE) {
            throw new IllegalArgumentException("value is 0 to 9999");
        }
        int age = write(key, value);
        settle();
        return age;
    }

    public int remove(int key) throws IllegalArgumentException {
        checkKey(key);
        int age = write(key, STONE);
        settle();
        return age;
    }

    public int sync() {
        int before = front.unsafeWrites();
        front.makeSafe();
        return before;
    }

    public int flush() {
        int before = front.held.length();
        layHand();
        settle();
        return before;
    }

    public int pack(int level) throws IndexOutOfBoundsException {
        checkLevel(level);
        int saved = planPack(level);
        int first = firstPacked(level);
        if (shelf.first(first) == shelf.total()) {
            return 0;
        }
        for (int emptied = first; emptied < LEVELS; emptied++) {
            shelf.cut(emptied, 0, shelf.count(emptied));
        }
        tally.raise(MERGINGS, 1);
        layPile(LAST_LEVEL, 0);
        return saved;
    }

    public int crash() {
        int lost = front.unsafeWrites();
        front.loseUnsafe();
        views.loseAll();
        fillHand();
        return lost;
    }

    // ---- snapshots

    public int snap() throws IllegalStateException {
        if (views.there() >= MOST_SNAPSHOTS) {
            throw new IllegalStateException("4 snapshots are there");
        }
        return views.take(ledger.newest());
    }

    public int release(int snapshot) throws IndexOutOfBoundsException {
        views.letGo(placeOfSnapshot(snapshot));
        fillHand();
        return views.there();
    }

    // ---- reading (get() and getAt() are COUNTED)

    public int get(int key) throws IllegalArgumentException {
        checkKey(key);
        return valueOf(lookUp(key, ledger.newest(), tally));
    }

    public int getAt(int snapshot, int key) throws IndexOutOfBoundsException, IllegalArgumentException {
        int place = placeOfSnapshot(snapshot);
        checkKey(key);
        return valueOf(lookUp(key, views.age(place), tally));
    }

    public int next(int key) throws IllegalArgumentException {
        if (key < -1 || key > GREATEST_KEY) {
            throw new IllegalArgumentException("key is -1 to 9999");
        }
        Row there = listThere(ledger.newest());
        for (int i = 0; i < there.length(); i++) {
            int candidate = ledger.key(there.at(i));
            if (candidate > key) {
                return candidate;
            }
        }
        return -1;
    }

    public int countAt(int snapshot, int from, int to) throws IndexOutOfBoundsException, IllegalArgumentException {
        int place = placeOfSnapshot(snapshot);
        checkKeys(from, to);
        Row there = listThere(views.age(place));
        int count = 0;
        for (int i = 0; i < there.length(); i++) {
            int key = ledger.key(there.at(i));
            if (key >= from && key <= to) {
                count++;
            }
        }
        return count;
    }

    public int sum(int from, int to) throws IllegalArgumentException {
        checkKeys(from, to);
        Row there = listThere(ledger.newest());
        int sum = 0;
        for (int i = 0; i < there.length(); i++) {
            int key = ledger.key(there.at(i));
            if (key >= from && key <= to) {
                sum += ledger.value(there.at(i));
            }
        }
        return sum;
    }

    public int keys() {
        return listThere(ledger.newest()).length();
    }

    // ---- what is where

    public int hand() {
        return front.held.length();
    }

    public int log() {
        return front.written.length();
    }

    public int unsafe() {
        return front.unsafeWrites();
    }

    public int snapshots() {
        return views.there();
    }

    public int runs(int level) throws IndexOutOfBoundsException {
        checkLevel(level);
        return shelf.count(level);
    }

    public int size(int level, int run) throws IndexOutOfBoundsException {
        return shelf.length(numberOf(level, run));
    }

    public int entry(int level, int run, int place, int what)
            throws IndexOutOfBoundsException, IllegalArgumentException {
        int number = numberOf(level, run);
        if (place < 0 || place >= shelf.length(number)) {
            throw new IndexOutOfBoundsException("no such place");
        }
        if (what < 0 || what > 2) {
            throw new IllegalArgumentException("what is 0 to 2");
        }
        int age = shelf.age(number, place);
        if (what == 1) {
            return age;
        }
        return what == 0 ? ledger.key(age) : ledger.value(age);
    }

    public int bitsSet(int level, int run) throws IndexOutOfBoundsException {
        return shelf.setBits(numberOf(level, run));
    }

    public boolean mayHave(int level, int run, int key) throws IndexOutOfBoundsException, IllegalArgumentException {
        int number = numberOf(level, run);
        checkKey(key);
        return shelf.passes(number, key);
    }

    public int mark(int level) throws IndexOutOfBoundsException {
        checkLevel(level);
        return marks.at(level);
    }

    public int entries() {
        return shelf.ages.length();
    }

    public int stones() {
        int stones = 0;
        for (int i = 0; i < shelf.ages.length(); i++) {
            if (ledger.isStone(shelf.ages.at(i))) {
                stones++;
            }
        }
        return stones;
    }

    // ---- what was counted

    public int counted(int what) throws IllegalArgumentException {
        if (what < 0 || what >= COUNTERS) {
            throw new IllegalArgumentException("what is 0 to 5");
        }
        return tally.at(what);
    }

    public double amplification() {
        int writes = tally.at(WRITES);
        if (writes == 0) {
            return 0.0;
        }
        return (double) tally.at(LAID) / (double) writes;
    }

    // ---- what would be (nothing is changed, nor COUNTED)

    public int cost(int key) throws IllegalArgumentException {
        checkKey(key);
        trial.wipe();
        lookUp(key, ledger.newest(), trial);
        return trial.at(SEARCHES);
    }

    public int wouldSave(int level) throws IndexOutOfBoundsException {
        checkLevel(level);
        return planPack(level);
    }

    public int getSafe(int key) throws IllegalArgumentException {
        checkKey(key);
        int age = NO_AGE;
        for (int i = 0; i < front.safe; i++) {
            if (ledger.key(front.written.at(i)) == key) {
                age = front.written.at(i);
            }
        }
        return valueOf(age != NO_AGE ? age : lookInRuns(key, ledger.newest(), trial));
    }

    public long digest() {
        long d = 58046;
        d = d * 31 + hand();
        d = d * 31 + log();
        d = d * 31 + unsafe();
        d = d * 31 + snapshots();
        d = d * 31 + keys();
        d = d * 31 + entries();
        d = d * 31 + stones();
        for (int what = 0; what < COUNTERS; what++) {
            d = d * 31 + tally.at(what);
        }
        for (int level = 0; level < LEVELS; level++) {
            d = d * 31 + shelf.count(level);
            d = d * 31 + marks.at(level);
            d = d * 31 + planPack(level);
            for (int run = shelf.first(level); run < shelf.first(level + 1); run++) {
                d = digestRun(d, run);
            }
        }
        return d * 31 + sum(0, GREATEST_KEY);
    }

    private long digestRun(long start, int run) {
        long d = start * 31 + shelf.length(run);
        d = d * 31 + shelf.setBits(run);
        for (int place = 0; place < shelf.length(run); place++) {
            int age = shelf.age(run, place);
            d = d * 31 + ledger.key(age);
            d = d * 31 + age;
            d = d * 31 + ledger.value(age);
        }
        return d;
    }

    // ---- what the calls are checked for

    private static void checkKey(int key) {
        if (key < 0 || key > GREATEST_KEY) {
            throw new IllegalArgumentException("key is 0 to 9999");
        }
    }

    private static void checkKeys(int from, int to) {
        if (from < 0 || from > GREATEST_KEY || to < from || to > GREATEST_KEY) {
            throw new IllegalArgumentException("from and to are 0 to 9999, to not less than from");
        }
    }

    private static void checkLevel(int level) {
        if (level < 0 || level >= LEVELS) {
            throw new IndexOutOfBoundsException("no such level");
        }
    }

    private int numberOf(int level, int run) {
        checkLevel(level);
        if (run < 0 || run >= shelf.count(level)) {
            throw new IndexOutOfBoundsException("no such run");
        }
        return shelf.first(level) + run;
    }

    private int placeOfSnapshot(int snapshot) {
        int place = views.placeOf(snapshot);
        if (place < 0) {
            throw new IndexOutOfBoundsException("no such snapshot");
        }
        return place;
    }

    // ---- how it is written

    private int write(int key, int value) {
        // Only a call after the 512th can be one WRITE too many: its answer is free, and rows have no place for it.
        if (ledger.isFull()) {
            return -1;
        }
        int age = ledger.note(key, value);
        tally.raise(WRITES, 1);
        front.written.append(age);
        if (every > 0 && age % every == 0) {
            front.makeSafe();
        }
        fillHand();
        if (front.held.length() >= room || front.written.length() >= LOG_ROOM) {
            layHand();
        }
        return age;
    }

    /** The LOG has all WRITES since the HAND was emptied, so the HAND is always made from it anew. */
    private void fillHand() {
        pile.begin();
        pile.gather(front.written, 0, front.written.length());
        pile.keepNeeded();
        front.held.copy(pile.left);
    }

    private void layHand() {
        int length = front.held.length();
        if (length > 0) {
            shelf.insert(0, 0, front.held, 0, length, bits, hashes);
            tally.raise(LAID, length);
        }
        front.empty();
    }

    /** Nothing is FULL if no HAND was FLUSHED: there is nothing to do then. */
    private void settle() {
        for (int step = 0; step < MOST_STEPS; step++) {
            int level = firstFull();
            if (level < 0) {
                return;
            }
            pile.begin();
            int place = way == 0 ? takeLevel(level) : takePart(level);
            pile.keepNeeded();
            // What was taken is off the shelf: all that is left below the level comes behind it.
            pile.dropStones(shelf.ages, shelf.begin(shelf.first(level + 1)));
            tally.raise(MERGINGS, 1);
            layPile(level < LAST_LEVEL ? level + 1 : LAST_LEVEL, place);
        }
    }

    private int firstFull() {
        for (int level = 0; level < LEVELS; level++) {
            if (isFull(level)) {
                return level;
            }
        }
        return -1;
    }

    private boolean isFull(int level) {
        if (way == 0 || level == 0) {
            return shelf.count(level) >= fan;
        }
        if (level == LAST_LEVEL) {
            return false;
        }
        return shelf.entriesOn(level) > piece * (level == 1 ? fan : fan * fan);
    }

    /** Takes all RUNS of the level; answers the place of what they become. */
    private int takeLevel(int level) {
        takeRuns(level, 0, shelf.count(level));
        return 0;
    }

    /** Takes what goes down from the level, and what it meets on the next one; answers the place there. */
    private int takePart(int level) {
        int from = 0;
        int to = shelf.count(level);
        if (level > 0) {
            int beyondMark = shelf.firstBeyond(level, marks.at(level));
            from = beyondMark < to ? beyondMark : 0;
            to = from + 1;
        }
        int first = shelf.first(level);
        int least = shelf.leastOf(first + from, first + to);
        int greatest = shelf.greatestOf(first + from, first + to);
        if (level > 0) {
            marks.write(level, greatest);
        }
        int met = shelf.firstReaching(level + 1, least);
        int beyond = shelf.firstBeyond(level + 1, greatest);
        takeRuns(level, from, to);
        takeRuns(level + 1, met, beyond);
        return met;
    }

    private void takeRuns(int level, int from, int to) {
        int first = shelf.first(level);
        pile.gather(shelf.ages, shelf.begin(first + from), shelf.begin(first + to));
        shelf.cut(level, from, to);
    }

    private int firstPacked(int level) {
        return way == 0 ? level : 0;
    }

    /** Gathers in the pile what pack() would leave; answers how many ENTRIES less these are. */
    private int planPack(int level) {
        int begin = shelf.begin(shelf.first(firstPacked(level)));
        int end = shelf.ages.length();
        pile.begin();
        pile.gather(shelf.ages, begin, end);
        pile.keepNeeded();
        // All deeper levels are taken too, so nothing comes behind.
        pile.dropStones(shelf.ages, end);
        return end - begin - pile.left.length();
    }

    private void layPile(int level, int place) {
        Row left = pile.left;
        int from = 0;
        for (int made = 0; made < MOST_WRITES && from < left.length(); made++) {
            int to = way == 0 ? left.length() : pile.pieceEnd(from, piece);
            shelf.insert(level, place + made, left, from, to, bits, hashes);
            from = to;
        }
        tally.raise(LAID, left.length());
    }

    // ---- how it is read

    private int valueOf(int age) {
        return age != NO_AGE ? ledger.value(age) : -1;
    }

    private int lookUp(int key, int limit, Row counts) {
        int age = ledger.find(front.held, 0, front.held.length(), key, limit);
        return age != NO_AGE ? age : lookInRuns(key, limit, counts);
    }

    private int lookInRuns(int key, int limit, Row counts) {
        for (int run = 0; run < shelf.total(); run++) {
            int age = shelf.spans(run, key) ? lookInRun(run, key, limit, counts) : NO_AGE;
            if (age != NO_AGE) {
                return age;
            }
        }
        return NO_AGE;
    }

    private int lookInRun(int run, int key, int limit, Row counts) {
        if (!shelf.passes(run, key)) {
            counts.raise(SKIPS, 1);
            return NO_AGE;
        }
        counts.raise(SEARCHES, 1);
        if (shelf.find(run, key, ledger.newest()) == NO_AGE) {
            counts.raise(ALARMS, 1);
        }
        return shelf.find(run, key, limit);
    }

    /** Of each KEY that is THERE for the limit the ENTRY that is read, by KEYS. */
    private Row listThere(int limit) {
        pile.begin();
        pile.gather(front.held, 0, front.held.length());
        pile.gather(shelf.ages, 0, shelf.ages.length());
        pile.keepThere(limit);
        return pile.left;
    }

    /** Numbers one behind the other, with a fixed room; no place outside of it is ever touched. */
    private static final class Row {
        private final int[] cells;
        private int used;

        Row(int most) {
            cells = new int[most > 0 ? most : 0];
        }

        int length() {
            return used;
        }

        int at(int place) {
            return place >= 0 && place < cells.length ? cells[place] : 0;
        }

        void write(int place, int number) {
            if (place >= 0 && place < cells.length) {
                cells[place] = number;
            }
        }

        void raise(int place, int by) {
            if (place >= 0 && place < cells.length) {
                cells[place] += by;
            }
        }

        void append(int number) {
            if (used >= 0 && used < cells.length) {
                cells[used] = number;
                used++;
            }
        }

        /** Makes room for some numbers at a place; they are to be written then. */
        void open(int place, int width) {
            if (place >= 0 && place <= used && width > 0 && width <= cells.length - used) {
                System.arraycopy(cells, place, cells, place + width, used - place);
                used += width;
            }
        }

        void cut(int from, int to) {
            if (from >= 0 && from < to && to <= used) {
                System.arraycopy(cells, to, cells, from, used - to);
                used -= to - from;
            }
        }

        void copy(Row other) {
            used = 0;
            for (int i = 0; i < other.length(); i++) {
                append(other.at(i));
            }
        }

        void empty() {
            used = 0;
        }

        void wipe() {
            for (int i = 0; i < cells.length; i++) {
                cells[i] = 0;
            }
        }
    }

    /** All WRITES that ever were, by their AGES, and the order in which RUNS have their ENTRIES. */
    private static final class Ledger {
        private final Row keyOf = new Row(MOST_WRITES + 1);
        private final Row valueOf = new Row(MOST_WRITES + 1);
        private final Row order = new Row(MOST_WRITES);

        boolean isFull() {
            return order.length() >= MOST_WRITES;
        }

        int newest() {
            return order.length();
        }

        int key(int age) {
            return keyOf.at(age);
        }

        int value(int age) {
            return valueOf.at(age);
        }

        boolean isStone(int age) {
            return valueOf.at(age) == STONE;
        }

        int note(int key, int value) {
            int age = order.length() + 1;
            int place = 0;
            while (place < order.length() && keyOf.at(order.at(place)) < key) {
                place++;
            }
            keyOf.write(age, key);
            valueOf.write(age, value);
            order.open(place, 1);
            order.write(place, age);
            return age;
        }

        /** The first one in a part of a row that has the KEY and is not newer than the limit. */
        int find(Row ages, int from, int to, int key, int limit) {
            for (int i = from; i < to; i++) {
                int age = ages.at(i);
                if (keyOf.at(age) == key && age <= limit) {
                    return age;
                }
            }
            return NO_AGE;
        }
    }

    /** The SNAPSHOTS that are there. */
    private static final class Snapshots {
        private final Row numbers = new Row(MOST_SNAPSHOTS);
        private final Row ages = new Row(MOST_SNAPSHOTS);
        private int taken;

        int there() {
            return numbers.length();
        }

        int age(int place) {
            return ages.at(place);
        }

        int take(int age) {
            int number = taken;
            numbers.append(number);
            ages.append(age);
            taken++;
            return number;
        }

        int placeOf(int number) {
            for (int i = 0; i < numbers.length(); i++) {
                if (numbers.at(i) == number) {
                    return i;
                }
            }
            return -1;
        }

        void letGo(int place) {
            numbers.cut(place, place + 1);
            ages.cut(place, place + 1);
        }

        void loseAll() {
            numbers.empty();
            ages.empty();
        }

        /** Whether one of them sees an ENTRY of the AGE that has a newer one of its KEY. */
        boolean see(int age, int newer) {
            for (int i = 0; i < ages.length(); i++) {
                if (ages.at(i) >= age && ages.at(i) < newer) {
                    return true;
                }
            }
            return false;
        }
    }

    /** The HAND, sorted as a RUN is, and the LOG, of which the first ones are SAFE. */
    private static final class Hand {
        private final Row held = new Row(LOG_ROOM);
        private final Row written = new Row(LOG_ROOM);
        private int safe;

        int unsafeWrites() {
            return written.length() - safe;
        }

        void makeSafe() {
            safe = written.length();
        }

        void loseUnsafe() {
            written.cut(safe, written.length());
        }

        void empty() {
            held.empty();
            written.empty();
            safe = 0;
        }
    }

    /** All RUNS, level by level and by their numbers, which is how they are read; here each has one number in all. */
    private static final class Shelf {
        private final Ledger ledger;
        private final Row ages = new Row(MOST_WRITES);
        private final Row ends = new Row(MOST_WRITES);
        private final Row bits = new Row(MOST_WRITES);
        private final Row hashes = new Row(MOST_WRITES);
        private final Row lowBits = new Row(MOST_WRITES);
        private final Row highBits = new Row(MOST_WRITES);
        private final Row counts = new Row(LEVELS);

        Shelf(Ledger ledger) {
            this.ledger = ledger;
        }

        int total() {
            return ends.length();
        }

        int count(int level) {
            return counts.at(level);
        }

        /** The number of the first RUN of a level; of the level behind the last one, how many RUNS there are. */
        int first(int level) {
            int first = 0;
            for (int above = 0; above < level; above++) {
                first += counts.at(above);
            }
            return first;
        }

        int begin(int run) {
            return run > 0 ? ends.at(run - 1) : 0;
        }

        int length(int run) {
            return ends.at(run) - begin(run);
        }

        int entriesOn(int level) {
            return begin(first(level + 1)) - begin(first(level));
        }

        int age(int run, int place) {
            return ages.at(begin(run) + place);
        }

        int least(int run) {
            return ledger.key(ages.at(begin(run)));
        }

        int greatest(int run) {
            return ledger.key(ages.at(ends.at(run) - 1));
        }

        boolean spans(int run, int key) {
            return least(run) <= key && key <= greatest(run);
        }

        int find(int run, int key, int limit) {
            return ledger.find(ages, begin(run), ends.at(run), key, limit);
        }

        int leastOf(int from, int to) {
            int least = GREATEST_KEY;
            for (int run = from; run < to; run++) {
                least = Math.min(least, least(run));
            }
            return least;
        }

        int greatestOf(int from, int to) {
            int greatest = 0;
            for (int run = from; run < to; run++) {
                greatest = Math.max(greatest, greatest(run));
            }
            return greatest;
        }

        /** The place of the first RUN of a level whose least KEY is greater; the end of the level without one. */
        int firstBeyond(int level, int key) {
            int first = first(level);
            for (int place = 0; place < counts.at(level); place++) {
                if (least(first + place) > key) {
                    return place;
                }
            }
            return counts.at(level);
        }

        /** The place of the first RUN of a level whose greatest KEY is not less; the end of the level without one. */
        int firstReaching(int level, int key) {
            int first = first(level);
            for (int place = 0; place < counts.at(level); place++) {
                if (greatest(first + place) >= key) {
                    return place;
                }
            }
            return counts.at(level);
        }

        void insert(int level, int place, Row source, int from, int to, int filterBits, int filterHashes) {
            int run = first(level) + place;
            int begin = begin(run);
            int length = to - from;
            long filter = 0;
            ages.open(begin, length);
            for (int i = 0; i < length; i++) {
                int age = source.at(from + i);
                ages.write(begin + i, age);
                filter |= bitsOf(ledger.key(age), filterBits, filterHashes);
            }
            openRun(run);
            ends.write(run, begin + length);
            for (int later = run + 1; later < ends.length(); later++) {
                ends.raise(later, length);
            }
            bits.write(run, filterBits);
            hashes.write(run, filterHashes);
            lowBits.write(run, (int) filter);
            highBits.write(run, (int) (filter >>> 32));
            counts.raise(level, 1);
        }

        private void openRun(int run) {
            ends.open(run, 1);
            bits.open(run, 1);
            hashes.open(run, 1);
            lowBits.open(run, 1);
            highBits.open(run, 1);
        }

        /** Takes the RUNS off a level that have the places from the one up to the other one, it not counted. */
        void cut(int level, int from, int to) {
            int first = first(level);
            int firstCut = first + from;
            int behind = first + to;
            int begin = begin(firstCut);
            int end = begin(behind);
            ages.cut(begin, end);
            ends.cut(firstCut, behind);
            bits.cut(firstCut, behind);
            hashes.cut(firstCut, behind);
            lowBits.cut(firstCut, behind);
            highBits.cut(firstCut, behind);
            for (int later = firstCut; later < ends.length(); later++) {
                ends.raise(later, begin - end);
            }
            counts.raise(level, from - to);
        }

        int setBits(int run) {
            return bits.at(run) > 0 ? Long.bitCount(filterOf(run)) : -1;
        }

        boolean passes(int run, int key) {
            long wanted = bitsOf(key, bits.at(run), hashes.at(run));
            return (filterOf(run) & wanted) == wanted;
        }

        private long filterOf(int run) {
            return ((long) highBits.at(run) << 32) | (lowBits.at(run) & 0xFFFFFFFFL);
        }

        /** None without a FILTER, so that every KEY passes there. */
        private static long bitsOf(int key, int filterBits, int filterHashes) {
            long wanted = 0;
            if (filterBits > 0) {
                for (int j = 1; j <= filterHashes; j++) {
                    wanted |= 1L << ((key * (2 * j + 1) + 7 * j) % filterBits);
                }
            }
            return wanted;
        }
    }

    /** ENTRIES that were gathered, and which of them are left; made once and used for each MERGING and each list. */
    private static final class Pile {
        private final Ledger ledger;
        private final Snapshots views;
        private final Row gathered = new Row(MOST_WRITES + 1);
        private final Row left = new Row(MOST_WRITES);

        Pile(Ledger ledger, Snapshots views) {
            this.ledger = ledger;
            this.views = views;
        }

        void begin() {
            gathered.wipe();
            left.empty();
        }

        void gather(Row ages, int from, int to) {
            for (int i = from; i < to; i++) {
                gathered.write(ages.at(i), 1);
            }
        }

        /** The ledger is in order already, so walking it sorts what was gathered. */
        void keepNeeded() {
            int newer = NO_AGE;
            for (int i = 0; i < ledger.order.length(); i++) {
                int age = ledger.order.at(i);
                if (gathered.at(age) == 1) {
                    boolean newest = newer == NO_AGE || ledger.key(newer) != ledger.key(age);
                    if (newest || views.see(age, newer)) {
                        left.append(age);
                    }
                    newer = age;
                }
            }
        }

        void keepThere(int limit) {
            int lastKey = -1;
            for (int i = 0; i < ledger.order.length(); i++) {
                int age = ledger.order.at(i);
                int key = ledger.key(age);
                if (gathered.at(age) == 1 && age <= limit && key != lastKey) {
                    lastKey = key;
                    if (!ledger.isStone(age)) {
                        left.append(age);
                    }
                }
            }
        }

        /** Lets the oldest STONES of each KEY go that has no ENTRY behind a place of what lies in RUNS. */
        void dropStones(Row laid, int behind) {
            int lastKey = -1;
            boolean oldest = false;
            for (int i = left.length() - 1; i >= 0; i--) {
                int age = left.at(i);
                int key = ledger.key(age);
                oldest = oldest || key != lastKey;
                lastKey = key;
                if (oldest && ledger.isStone(age)
                        && ledger.find(laid, behind, laid.length(), key, ledger.newest()) == NO_AGE) {
                    left.cut(i, i + 1);
                } else {
                    oldest = false;
                }
            }
        }

        /** Where a RUN ends that begins at a place: whole KEYS as long as they fit, but at least one. */
        int pieceEnd(int from, int piece) {
            int end = from;
            for (int i = from + 1; i <= left.length(); i++) {
                boolean keyEnds = i == left.length() || ledger.key(left.at(i)) != ledger.key(left.at(i - 1));
                if (keyEnds && end > from && i - from > piece) {
                    return end;
                }
                if (keyEnds) {
                    end = i;
                }
            }
            return end;
        }
    }
}
