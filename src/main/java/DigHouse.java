import java.util.Arrays;

/** The books of a dig. The words in capitals are those of the document, DOC.md. */
public final class DigHouse {
    public static final int BAD = -1, STATE = -2, FULL = -3, RING = -4, NONE = -5;

    private static final int NOTHING = -11, BEYOND = -12, CAST = -13, NOUGHT = -14, SIZE = -15, STORE = -16;
    private static final int LAYER = 0, CUT = 1, FILL = 2, WALL = 3, BURIAL = 4;
    private static final int THICKNESS = 0, TRAYS = 1, MARGIN = 2, SIGN = 3, BOTH = 4;
    private static final int BY_ABOVE = 0, BY_CUT = 1, BY_FILL = 2;
    private static final int SHERDS = 0, COIN = 1, SAMPLE = 2, NOTE = 3, BAG = 4;
    private static final int SURE = 0, INTRUSIVE = 1, RESIDUAL = 2;
    private static final int MOST_ACTS = 300, MOST_UNITS = 100, MOST_RELATIONS = 200;
    private static final int MOST_TRAYS = 60, MOST_SLOTS = 40, MOST_JOINS = 80, MOST_LETTERS = 40;
    private static final int MOST_BLOCKS_IN_ROW = 16;
    private static final int TYPES = 8, MOST_SHERDS = 100, MOST_NUMBER = 999;
    private static final int FIRST_YEAR = -10000, LAST_YEAR = 2100, COIN_IN_USE = 60;
    private static final int NO_NUMBER_BITS = 2143289344;

    private final Book book;
    private final Units units;
    private final Web web;
    private final Trays trays;
    private final Years years;
    private final Sequences sequences;
    private final Bodies traced;
    private final Bodies untraced;
    private final Trail ring;
    private final int[] findings;
    private int told;
    private int latest;

    public DigHouse() {
        book = new Book();
        units = new Units(book);
        web = new Web(book, units);
        trays = new Trays(book);
        traced = new Bodies();
        untraced = new Bodies();
        years = new Years(book, units, web, trays, untraced);
        sequences = new Sequences(units, web);
        ring = new Trail();
        findings = new int[6];
    }

    // ---- what all calls go by

    private int counted(int answer) {
        int finding = -11 - answer;
        if (finding >= 0 && finding < findings.length) {
            findings[finding]++;
        }
        return answer;
    }

    private int refused(int answer) {
        latest = answer;
        return counted(answer);
    }

    private int done(int answer) {
        book.enter();
        latest = 0;
        return answer;
    }

    private int leftOut() {
        latest = 0;
        return 0;
    }

    private int tell(int value) {
        told = value;
        return 1;
    }

    private static boolean areYears(int from, int to) {
        return from >= FIRST_YEAR && from <= to && to <= LAST_YEAR;
    }

    // ---- 1 units

    public int unit(int kind, int n) {
        if (kind < LAYER || kind > BURIAL || n < 0 || n > MOST_NUMBER) {
            return refused(BAD);
        }
        if (book.isFull() || units.areFull()) {
            return refused(FULL);
        }
        return done(units.add(kind, n));
    }

    public int asks(int unit, int what) {
        if (!units.has(unit) || what < THICKNESS || what > BOTH) {
            return BAD;
        }
        int answer = traced.answer(units, unit, what);
        return traced.sharedAmongNone ? counted(NOUGHT) : tell(answer);
    }

    public int asked() {
        return told;
    }

    public int trace(int i) {
        return traced.bodyAt(i);
    }

    // ---- 2 relations

    public int above(int a, int b) {
        return relate(BY_ABOVE, a, b);
    }

    public int cut(int c, int b) {
        return relate(BY_CUT, c, b);
    }

    public int fill(int f, int c) {
        return relate(BY_FILL, f, c);
    }

    private int relate(int how, int later, int earlier) {
        if (!units.has(later) || !units.has(earlier)) {
            return refused(BAD);
        }
        if (book.isFull() || web.isFull()) {
            return refused(FULL);
        }
        if (!units.suit(how, later, earlier)) {
            return refused(CAST);
        }
        int from = units.blockOf(later);
        int to = units.blockOf(earlier);
        if (from == to || web.leads(to, from)) {
            return ringed(to, from);
        }
        return done(web.add(how, later, earlier));
    }

    private int ringed(int from, int to) {
        web.refresh();
        ring.walk(web, from, to);
        return refused(RING);
    }

    public int bond(int a, int b) {
        if (!units.has(a) || !units.has(b)) {
            return refused(BAD);
        }
        if (book.isFull()) {
            return refused(FULL);
        }
        int one = units.blockOf(a);
        int other = units.blockOf(b);
        if (one == other) {
            return leftOut();
        }
        if (web.leads(one, other)) {
            return ringed(one, other);
        }
        if (web.leads(other, one)) {
            return ringed(other, one);
        }
        units.tie(one, other);
        return done(1);
    }

    public int ring(int i) {
        return ring.relationAt(i);
    }

    public int relation(int r, int what) {
        if (!web.has(r)) {
            return BAD;
        }
        switch (what) {
            case 0:
                return web.hows.now[r];
            case 1:
                return web.laters.now[r];
            case 2:
                return web.earliers.now[r];
            case 3:
                return web.isNeedless(r) ? 1 : 0;
            default:
                return BAD;
        }
    }

    public int later(int a, int b) {
        if (!units.has(a) || !units.has(b)) {
            return BAD;
        }
        return web.leads(units.blockOf(a), units.blockOf(b)) ? 1 : 0;
    }

    public int block(int unit) {
        return units.has(unit) ? units.blockOf(unit) : BAD;
    }

    public int chart(int i) {
        return web.chartAt(i);
    }

    public int row(int unit) {
        return units.has(unit) ? web.rowOf(units.blockOf(unit)) : BAD;
    }

    // ---- 3 trays

    public int tray(int unit, int n) {
        if (!units.has(unit) || n > MOST_SLOTS) {
            return refused(BAD);
        }
        if (book.isFull() || trays.areFull() || trays.ownedBy(unit) >= untraced.answer(units, unit, TRAYS)) {
            return refused(FULL);
        }
        if (n < 0) {
            return refused(SIZE);
        }
        return done(trays.add(unit, n));
    }

    public int lose(int tray) {
        if (!trays.has(tray)) {
            return refused(BAD);
        }
        if (book.isFull()) {
            return refused(FULL);
        }
        if (trays.isLost(tray)) {
            return leftOut();
        }
        trays.giveUp(tray);
        return done(1);
    }

    public int coin(int tray, int slot, int first, int last) {
        if (!trays.has(tray) || !areYears(first, last)) {
            return refused(BAD);
        }
        int barrier = barrierToNew(tray, slot);
        if (barrier != 0) {
            return refused(barrier);
        }
        trays.putNew(tray, slot, new Find(COIN, SURE, new int[] {first, last}));
        return done(1);
    }

    public int sample(int tray, int slot, int year, int spread) {
        if (!trays.has(tray)) {
            return refused(BAD);
        }
        int barrier = barrierToNew(tray, slot);
        if (barrier != 0) {
            return refused(barrier);
        }
        int[] bits = new int[] {Find.plainBits(year), Find.plainBits(spread)};
        trays.putNew(tray, slot, new Find(SAMPLE, SURE, bits));
        return done(1);
    }

    /** What stands against a FIND that has to come into an EMPTY SLOT of a TRAY that is there; 0: nothing. */
    private int barrierToNew(int tray, int slot) {
        if (book.isFull()) {
            return FULL;
        }
        int finding = trays.look(tray, slot);
        if (finding != 0) {
            return finding;
        }
        return trays.findAt(tray, slot) == null ? 0 : STATE;
    }

    public int sherds(int tray, int slot, int type, int n) {
        if (!trays.has(tray) || n < -MOST_SHERDS || n > MOST_SHERDS) {
            return refused(BAD);
        }
        if (book.isFull()) {
            return refused(FULL);
        }
        int finding = trays.lookForMore(tray, slot, SHERDS);
        if (finding != 0) {
            return refused(finding);
        }
        if (type < 0 || type >= TYPES) {
            return refused(BEYOND);
        }
        Find old = trays.findAt(tray, slot);
        int there = (old == null ? 0 : old.numberAt(type)) + n;
        if (there < 0 || there > MOST_SHERDS) {
            return refused(STATE);
        }
        trays.putNew(tray, slot, Find.withSherds(old, type, there));
        return done(there);
    }

    public int note(int tray, int slot, long w) {
        int more = Find.lettersOf(w);
        if (!trays.has(tray) || more <= 0) {
            return refused(BAD);
        }
        if (book.isFull()) {
            return refused(FULL);
        }
        int finding = trays.lookForMore(tray, slot, NOTE);
        if (finding != 0) {
            return refused(finding);
        }
        Find old = trays.findAt(tray, slot);
        int length = (old == null ? 0 : old.numbers.length) + more;
        if (length > MOST_LETTERS) {
            return refused(STATE);
        }
        trays.putNew(tray, slot, Find.withLetters(old, w, length));
        return done(length);
    }

    public int bag(int tray, int slot, int n) {
        if (!trays.has(tray) || n > MOST_SLOTS) {
            return refused(BAD);
        }
        if (book.isFull() || trays.areFull()) {
            return refused(FULL);
        }
        if (n < 0) {
            return refused(SIZE);
        }
        int barrier = barrierToNew(tray, slot);
        if (barrier != 0) {
            return refused(barrier);
        }
        int number = trays.add(NONE, n);
        trays.putNew(tray, slot, new Find(BAG, SURE, new int[] {number}));
        trays.setPlace(number, tray, slot);
        return done(number);
    }

    public int take(int tray, int slot) {
        if (!trays.has(tray)) {
            return refused(BAD);
        }
        if (book.isFull()) {
            return refused(FULL);
        }
        int finding = trays.lookForSome(tray, slot);
        Find held = trays.findAt(tray, slot);
        if (finding != 0 || held == null) {
            return refused(finding);
        }
        trays.empty(tray, slot);
        if (held.kind == BAG) {
            trays.unplace(held.numberAt(0));
        }
        return done(held.kind);
    }

    public int move(int tray, int slot, int to, int other) {
        if (!trays.has(tray) || !trays.has(to)) {
            return refused(BAD);
        }
        if (book.isFull()) {
            return refused(FULL);
        }
        int finding = trays.lookForSome(tray, slot);
        Find held = trays.findAt(tray, slot);
        if (finding != 0 || held == null) {
            return refused(finding);
        }
        finding = trays.look(to, other);
        if (finding != 0) {
            return refused(finding);
        }
        if (held.kind == BAG && trays.isWithin(to, held.numberAt(0))) {
            return refused(STORE);
        }
        if (trays.findAt(to, other) != null) {
            return refused(STATE);
        }
        trays.putSame(tray, slot, to, other);
        trays.empty(tray, slot);
        if (held.kind == BAG) {
            trays.setPlace(held.numberAt(0), to, other);
        }
        return done(held.kind);
    }

    public int kind(int tray, int slot) {
        if (!trays.has(tray)) {
            return BAD;
        }
        int finding = trays.look(tray, slot);
        if (finding != 0) {
            return counted(finding);
        }
        Find held = trays.findAt(tray, slot);
        return held == null ? NONE : held.kind;
    }

    public int sherd(int tray, int slot, int type) {
        return numberOf(tray, slot, SHERDS, type);
    }

    public int letter(int tray, int slot, int k) {
        return numberOf(tray, slot, NOTE, k);
    }

    public int bagged(int tray, int slot) {
        return numberOf(tray, slot, BAG, 0);
    }

    private int numberOf(int tray, int slot, int kind, int i) {
        int finding = lookInto(tray, slot, kind);
        if (finding != 0) {
            return counted(finding);
        }
        Find held = trays.findAt(tray, slot);
        if (held == null || i < 0 || i >= held.numbers.length) {
            return counted(BEYOND);
        }
        return held.numbers[i];
    }

    /** BAD, or the FINDING against a SLOT that has to hold a FIND of a KIND; 0: it does. */
    private int lookInto(int tray, int slot, int kind) {
        return trays.has(tray) ? trays.lookFor(tray, slot, kind) : BAD;
    }

    public int year(int tray, int slot, boolean last) {
        return tellNumberOf(tray, slot, COIN, last);
    }

    public int grain(int tray, int slot, boolean spread) {
        return tellNumberOf(tray, slot, SAMPLE, spread);
    }

    private int tellNumberOf(int tray, int slot, int kind, boolean second) {
        int finding = lookInto(tray, slot, kind);
        Find held = trays.findAt(tray, slot);
        if (finding != 0 || held == null) {
            return counted(finding);
        }
        return tell(held.numberAt(second ? 1 : 0));
    }

    public int mark(int tray, int slot, int m) {
        if (!trays.has(tray) || m < SURE || m > RESIDUAL) {
            return refused(BAD);
        }
        if (book.isFull()) {
            return refused(FULL);
        }
        int finding = trays.lookForSome(tray, slot);
        Find held = trays.findAt(tray, slot);
        if (finding != 0 || held == null) {
            return refused(finding);
        }
        if (held.kind != COIN && held.kind != SAMPLE) {
            return refused(CAST);
        }
        trays.putNew(tray, slot, new Find(held.kind, m, held.numbers));
        return done(held.mark);
    }

    public int copy(int tray, int slot, int n, int to, int other) {
        if (!trays.has(tray) || !trays.has(to) || n < 0 || n > MOST_SLOTS) {
            return refused(BAD);
        }
        if (book.isFull()) {
            return refused(FULL);
        }
        int why = 0;
        int copied = 0;
        for (int k = 0; k < n && why == 0; k++) {
            why = trays.barrierToCopy(tray, slot + k, to, other + k);
            if (why == 0) {
                trays.putSame(tray, slot + k, to, other + k);
                copied++;
            }
        }
        if (copied > 0) {
            book.enter();
        }
        latest = why;
        counted(why);
        return copied;
    }

    public int join(int tray, int slot, int to, int other) {
        if (!trays.has(tray) || !trays.has(to)) {
            return refused(BAD);
        }
        if (book.isFull()) {
            return refused(FULL);
        }
        int finding = trays.lookFor(tray, slot, SHERDS);
        if (finding == 0) {
            finding = trays.lookFor(to, other, SHERDS);
        }
        if (finding != 0) {
            return refused(finding);
        }
        if (trays.joinsMade() >= MOST_JOINS) {
            return refused(FULL);
        }
        return done(trays.addJoin(trays.unitOf(tray), trays.unitOf(to)));
    }

    public int joins(int a, int b) {
        return units.has(a) && units.has(b) ? trays.joinsOf(a, b) : BAD;
    }

    public int total(int unit, int type) {
        if (unit != NONE && !units.has(unit) || type != NONE && (type < 0 || type >= TYPES)) {
            return BAD;
        }
        return trays.sherdsIn(unit, type);
    }

    public int share(int unit, int type) {
        if (unit != NONE && !units.has(unit) || type < 0 || type >= TYPES) {
            return BAD;
        }
        int all = trays.sherdsIn(unit, NONE);
        return all == 0 ? counted(NOUGHT) : 1000 * trays.sherdsIn(unit, type) / all;
    }

    // ---- 4 spans

    public int span(int unit, int first, int last) {
        if (!units.has(unit) || !areYears(first, last)) {
            return refused(BAD);
        }
        if (book.isFull()) {
            return refused(FULL);
        }
        units.firsts.put(unit, first);
        units.lasts.put(unit, last);
        return done(1);
    }

    public int drawn(int unit, int what) {
        if (!units.has(unit) || what < 0 || what > 2) {
            return BAD;
        }
        int block = units.blockOf(unit);
        int begin = years.beginOf(block);
        int end = years.endOf(block);
        if (what == 2) {
            return tell(begin > end ? 1 : 0);
        }
        return tell(what == 0 ? begin : end);
    }

    public int quarrel() {
        return years.isQuarrel() ? years.quarrelLength() + 1 : 0;
    }

    public int because(int what) {
        if (what < 0 || !years.isQuarrel() || what >= 8 + years.quarrelLength()) {
            return NONE;
        }
        return tell(years.quarrelPart(what));
    }

    // ---- 5 sequences

    public long orders() {
        return units.blocks() > MOST_BLOCKS_IN_ROW ? STATE : sequences.howMany();
    }

    public int first() {
        return units.blocks() > MOST_BLOCKS_IN_ROW ? STATE : sequences.begin();
    }

    public int next() {
        if (!sequences.isAtHand()) {
            return STATE;
        }
        return sequences.step() ? 1 : 0;
    }

    public int place(int i) {
        return sequences.nameAt(i);
    }

    // ---- 6 the book

    public int undo() {
        if (book.acts() == 0) {
            return STATE;
        }
        book.goBack();
        units.edition++;
        ring.clear();
        return book.acts();
    }

    public int count(int what) {
        if (what >= 5 && what <= 10) {
            return findings[what - 5];
        }
        switch (what) {
            case 0:
                return units.size();
            case 1:
                return web.size();
            case 2:
                return units.blocks();
            case 3:
                return trays.size();
            case 4:
                return book.acts();
            case 11:
                return trays.joinsMade();
            case 12:
                return web.chartSize();
            default:
                return BAD;
        }
    }

    public int status() {
        return latest;
    }

    public long digest() {
        long h = 17;
        for (int u = 0; u < units.size(); u++) {
            h = 31 * h + units.kinds.now[u];
            h = 31 * h + units.numbers.now[u];
            h = 31 * h + units.blockOf(u);
            h = 31 * h + units.firsts.now[u];
            h = 31 * h + units.lasts.now[u];
        }
        for (int r = 0; r < web.size(); r++) {
            h = 31 * h + web.hows.now[r];
            h = 31 * h + web.laters.now[r];
            h = 31 * h + web.earliers.now[r];
        }
        return trays.digestOn(h);
    }

    /** THE BOOK: what each act changed, so that the latest one can go back. */
    private static final class Book {
        private final int[] ends = new int[MOST_ACTS];
        private int acts;
        private Column[] whose = new Column[128];
        private int[] where = new int[128];
        private int[] was = new int[128];
        private int changes;
        private int edition;

        int acts() {
            return acts;
        }

        /** Another number whenever something may have become other. */
        int edition() {
            return edition;
        }

        boolean isFull() {
            return acts >= MOST_ACTS;
        }

        void remember(Column column, int index, int old) {
            if (changes >= was.length) {
                grow();
            }
            whose[changes] = column;
            where[changes] = index;
            was[changes] = old;
            changes++;
        }

        private void grow() {
            Column[] more = new Column[2 * whose.length];
            for (int i = 0; i < whose.length; i++) {
                more[i] = whose[i];
            }
            whose = more;
            where = Arrays.copyOf(where, more.length);
            was = Arrays.copyOf(was, more.length);
        }

        void enter() {
            if (acts < MOST_ACTS) {
                ends[acts] = changes;
                acts++;
                edition++;
            }
        }

        void goBack() {
            if (acts == 0) {
                return;
            }
            acts--;
            int begin = acts == 0 ? 0 : ends[acts - 1];
            // Backwards: a number that one act changed twice has to get its oldest value.
            for (int i = changes - 1; i >= begin; i--) {
                Column column = whose[i];
                if (column != null) {
                    column.restore(where[i], was[i]);
                }
            }
            changes = begin;
            edition++;
        }
    }

    /** Numbers of the dig that acts change, and that go back with them. */
    private static final class Column {
        final int[] now;
        private final Book book;

        Column(Book book, int length, int atFirst) {
            this.book = book;
            now = new int[length];
            Arrays.fill(now, atFirst);
        }

        void put(int index, int value) {
            if (index < 0 || index >= now.length || now[index] == value) {
                return;
            }
            book.remember(this, index, now[index]);
            now[index] = value;
        }

        void restore(int index, int value) {
            if (index >= 0 && index < now.length) {
                now[index] = value;
            }
        }
    }

    /** The BODIES of the asks, and the trace that they leave. */
    private static final class Bodies {
        private final int[] begun = new int[4];
        private int length;
        boolean sharedAmongNone;

        int bodyAt(int i) {
            return i >= 0 && i < length ? begun[i] : NONE;
        }

        /** A BODY begins, and gives its own number: Java goes from left to right, as the BODIES do. */
        private int give(int body, int value) {
            if (length < begun.length) {
                begun[length] = body;
                length++;
            }
            return value;
        }

        int answer(Units units, int unit, int what) {
            int kind = units.kinds.now[unit];
            int n = units.numbers.now[unit];
            length = 0;
            sharedAmongNone = false;
            switch (what) {
                case THICKNESS:
                    return thickness(kind, n);
                case TRAYS:
                    return traysLent(kind);
                case MARGIN:
                    return margin(kind, n);
                case SIGN:
                    return sign(kind);
                default:
                    return kind == BURIAL ? give(41, 1) : give(40, 0);
            }
        }

        private int thickness(int kind, int n) {
            switch (kind) {
                case CUT:
                    return give(4, 0) - give(1, n);
                case FILL:
                    return give(2, 5) + give(1, n);
                case WALL:
                    return give(3, 2) * give(1, n);
                case BURIAL:
                    return shared(give(5, 1000), give(4, 0) - give(1, n));
                default:
                    return give(1, n);
            }
        }

        private int shared(int all, int among) {
            sharedAmongNone = among == 0;
            return sharedAmongNone ? 0 : all / among;
        }

        private int traysLent(int kind) {
            switch (kind) {
                case CUT:
                    return give(10, 3);
                case WALL:
                    return give(12, -4) + give(11, 5);
                case BURIAL:
                    return give(13, 6);
                default:
                    return give(11, 5);
            }
        }

        private int margin(int kind, int n) {
            switch (kind) {
                case CUT:
                    return give(20, 20);
                case WALL:
                    return give(22, 10) + give(21, n % 50);
                case BURIAL:
                    return give(23, 5);
                default:
                    return give(21, n % 50);
            }
        }

        private int sign(int kind) {
            switch (kind) {
                case CUT:
                    return give(31, 67);
                case BURIAL:
                    return give(32, -1) + give(31, 67);
                default:
                    return give(30, 85);
            }
        }
    }

    /** The UNITS, what span() told of them, and the BONDS. */
    private static final class Units {
        final Column kinds;
        final Column numbers;
        final Column firsts;
        final Column lasts;
        /** A UNIT of a lesser number that it is one with; itself, if its BLOCK has none. */
        private final Column tiedTo;
        private final Column size;
        private final int[] names = new int[MOST_UNITS];
        private int blocks;
        /** Another number whenever UNITS, BONDS or RELATIONS may have become others. */
        int edition;
        private int seen = -1;

        Units(Book book) {
            kinds = new Column(book, MOST_UNITS, 0);
            numbers = new Column(book, MOST_UNITS, 0);
            firsts = new Column(book, MOST_UNITS, 0);
            lasts = new Column(book, MOST_UNITS, 0);
            tiedTo = new Column(book, MOST_UNITS, 0);
            size = new Column(book, 1, 0);
        }

        int size() {
            return size.now[0];
        }

        boolean has(int unit) {
            return unit >= 0 && unit < size();
        }

        boolean areFull() {
            return size() >= MOST_UNITS;
        }

        int add(int kind, int n) {
            int unit = size();
            kinds.put(unit, kind);
            numbers.put(unit, n);
            firsts.put(unit, FIRST_YEAR);
            lasts.put(unit, LAST_YEAR);
            tiedTo.put(unit, unit);
            size.put(0, unit + 1);
            edition++;
            return unit;
        }

        /** Makes one of two BLOCKS; the greater name gives way, so that the least UNIT names it still. */
        void tie(int one, int other) {
            tiedTo.put(Math.max(one, other), Math.min(one, other));
            edition++;
        }

        int blockOf(int unit) {
            nameBlocks();
            return names[unit];
        }

        int blocks() {
            nameBlocks();
            return blocks;
        }

        /** By numbers upward: what a UNIT is tied to has a lesser number, so its name is known. */
        private void nameBlocks() {
            if (seen == edition) {
                return;
            }
            seen = edition;
            blocks = 0;
            for (int u = 0; u < size(); u++) {
                int tied = tiedTo.now[u];
                names[u] = tied == u ? u : names[tied];
                blocks += tied == u ? 1 : 0;
            }
        }

        private boolean isCut(int unit) {
            return kinds.now[unit] == CUT || kinds.now[unit] == BURIAL;
        }

        boolean suit(int how, int later, int earlier) {
            switch (how) {
                case BY_CUT:
                    return isCut(later);
                case BY_FILL:
                    return kinds.now[later] == FILL && isCut(earlier);
                default:
                    return true;
            }
        }
    }

    /** For each BLOCK a set of BLOCKS. */
    private static final class Sets {
        private final long[] low = new long[MOST_UNITS];
        private final long[] high = new long[MOST_UNITS];

        void clear(int size) {
            for (int i = 0; i < size && i < MOST_UNITS; i++) {
                low[i] = 0;
                high[i] = 0;
            }
        }

        boolean has(int of, int block) {
            long half = block < 64 ? low[of] : high[of];
            return (half >>> (block & 63) & 1) == 1;
        }

        void add(int of, int block) {
            if (block < 64) {
                low[of] |= 1L << block;
            } else {
                high[of] |= 1L << (block & 63);
            }
        }

        void addAll(int of, Sets from, int block) {
            low[of] |= from.low[block];
            high[of] |= from.high[block];
        }
    }

    /** The RELATIONS, the BLOCKS, and what follows from them. */
    private static final class Web {
        final Column hows;
        final Column laters;
        final Column earliers;
        private final Column size;
        private final Units units;
        private final int[] laterBlocks = new int[MOST_RELATIONS];
        private final int[] earlierBlocks = new int[MOST_RELATIONS];
        /** The RELATIONS by their later BLOCKS: those of b from outBegins[b] on. */
        private final int[] outs = new int[MOST_RELATIONS];
        private final int[] outBegins = new int[MOST_UNITS + 1];
        /** The RELATIONS by their earlier BLOCKS. */
        private final int[] ins = new int[MOST_RELATIONS];
        private final int[] inBegins = new int[MOST_UNITS + 1];
        private final int[] rows = new int[MOST_UNITS];
        private final int[] scratch = new int[MOST_UNITS];
        private final int[] queue = new int[MOST_UNITS];
        private final Sets reached = new Sets();
        private final Sets reachedByMore = new Sets();
        private final int[] needless = new int[MOST_RELATIONS];
        private final int[] charted = new int[MOST_RELATIONS];
        private int chartSize;
        private int seen = -1;

        Web(Book book, Units units) {
            this.units = units;
            hows = new Column(book, MOST_RELATIONS, 0);
            laters = new Column(book, MOST_RELATIONS, 0);
            earliers = new Column(book, MOST_RELATIONS, 0);
            size = new Column(book, 1, 0);
        }

        int size() {
            return size.now[0];
        }

        boolean has(int r) {
            return r >= 0 && r < size();
        }

        boolean isFull() {
            return size() >= MOST_RELATIONS;
        }

        int add(int how, int later, int earlier) {
            int r = size();
            hows.put(r, how);
            laters.put(r, later);
            earliers.put(r, earlier);
            size.put(0, r + 1);
            units.edition++;
            return r;
        }

        boolean leads(int from, int to) {
            refresh();
            return reached.has(from, to);
        }

        int rowOf(int block) {
            refresh();
            return rows[block];
        }

        boolean isNeedless(int r) {
            refresh();
            return needless[r] == 1;
        }

        int chartSize() {
            refresh();
            return chartSize;
        }

        int chartAt(int i) {
            refresh();
            return i >= 0 && i < chartSize ? charted[i] : NONE;
        }

        /** Those that read its rows themselves call it first. */
        void refresh() {
            if (seen == units.edition) {
                return;
            }
            seen = units.edition;
            for (int r = 0; r < size(); r++) {
                laterBlocks[r] = units.blockOf(laters.now[r]);
                earlierBlocks[r] = units.blockOf(earliers.now[r]);
            }
            group(laterBlocks, outBegins, outs);
            group(earlierBlocks, inBegins, ins);
            follow();
            judge();
        }

        private void group(int[] keys, int[] begins, int[] members) {
            int n = units.size();
            for (int b = 0; b <= n; b++) {
                begins[b] = 0;
            }
            for (int r = 0; r < size(); r++) {
                begins[keys[r] + 1]++;
            }
            for (int b = 0; b < n; b++) {
                scratch[b] = begins[b];
                begins[b + 1] += begins[b];
            }
            for (int r = 0; r < size(); r++) {
                members[scratch[keys[r]]] = r;
                scratch[keys[r]]++;
            }
        }

        /** From the earliest BLOCKS on: each when all that its own RELATIONS lead to are settled. */
        private void follow() {
            int n = units.size();
            reached.clear(n);
            reachedByMore.clear(n);
            int filled = 0;
            for (int b = 0; b < n; b++) {
                rows[b] = 0;
                scratch[b] = outBegins[b + 1] - outBegins[b];
                if (scratch[b] == 0) {
                    queue[filled] = b;
                    filled++;
                }
            }
            for (int at = 0; at < filled && at < n; at++) {
                int b = queue[at];
                for (int i = inBegins[b]; i < inBegins[b + 1]; i++) {
                    int from = laterBlocks[ins[i]];
                    reachedByMore.addAll(from, reached, b);
                    reached.addAll(from, reached, b);
                    reached.add(from, b);
                    rows[from] = Math.max(rows[from], rows[b] + 1);
                    scratch[from]--;
                    if (scratch[from] == 0) {
                        queue[filled] = from;
                        filled++;
                    }
                }
            }
        }

        private void judge() {
            chartSize = 0;
            for (int r = 0; r < size(); r++) {
                int from = laterBlocks[r];
                int to = earlierBlocks[r];
                if (reachedByMore.has(from, to)) {
                    needless[r] = 1;
                } else {
                    needless[r] = 0;
                    charted[chartSize] = r;
                    chartSize++;
                    // So that a later RELATION between the same two is found needless.
                    reachedByMore.add(from, to);
                }
            }
        }
    }

    /** A shortest row of RELATIONS, of several the first by their numbers. The Web has to be fresh. */
    private static final class Trail {
        private final int[] relations = new int[MOST_UNITS];
        private int length;
        private final int[] steps = new int[MOST_UNITS];
        private final int[] queue = new int[MOST_UNITS];

        void clear() {
            length = 0;
        }

        int length() {
            return length;
        }

        int relationAt(int i) {
            return i >= 0 && i < length ? relations[i] : NONE;
        }

        /** How many RELATIONS the shortest row has from a BLOCK to the one measured to; NONE: none leads there. */
        int stepsFrom(int block) {
            return steps[block];
        }

        void measure(Web web, int to) {
            Arrays.fill(steps, NONE);
            steps[to] = 0;
            queue[0] = to;
            int filled = 1;
            for (int at = 0; at < filled && at < MOST_UNITS; at++) {
                int b = queue[at];
                for (int i = web.inBegins[b]; i < web.inBegins[b + 1]; i++) {
                    int from = web.laterBlocks[web.ins[i]];
                    if (steps[from] == NONE) {
                        steps[from] = steps[b] + 1;
                        queue[filled] = from;
                        filled++;
                    }
                }
            }
        }

        void walk(Web web, int from, int to) {
            measure(web, to);
            length = 0;
            int at = from;
            for (int left = steps[from]; left > 0 && length < MOST_UNITS; left--) {
                int r = firstTowards(web, at, left - 1);
                relations[length] = r;
                length++;
                at = web.earlierBlocks[r];
            }
        }

        /** The first RELATION of a BLOCK to one that is so many steps away; a shortest row always has it. */
        private int firstTowards(Web web, int block, int left) {
            for (int i = web.outBegins[block]; i < web.outBegins[block + 1]; i++) {
                if (steps[web.earlierBlocks[web.outs[i]]] == left) {
                    return web.outs[i];
                }
            }
            return 0;
        }
    }

    /** What a SLOT holds. It never changes: SLOTS with copies of it may share it. */
    private static final class Find {
        private static final int EXPONENT = 0x7f800000, FRACTION = 0x007fffff, SIZE_BITS = 0x7fffffff;

        final int kind;
        final int mark;
        /** SHERDS by TYPES; both YEARS; both BITS; the letters; the BAG's number. */
        final int[] numbers;
        /** Of a SAMPLE: it bounds its UNIT, by the year and the spread. */
        final boolean bounds;
        final float year;
        final float spread;

        Find(int kind, int mark, int[] numbers) {
            this.kind = kind;
            this.mark = mark;
            this.numbers = numbers;
            boolean sample = kind == SAMPLE && numbers.length == 2;
            bounds = sample && isFinite(numbers[0]) && isFinite(numbers[1]) && !isBelowZero(numbers[1]);
            year = bounds ? floatOf(numbers[0]) : 0;
            spread = bounds ? floatOf(numbers[1]) : 0;
        }

        int numberAt(int i) {
            return i >= 0 && i < numbers.length ? numbers[i] : 0;
        }

        int sum() {
            int n = 0;
            for (int i = 0; i < numbers.length; i++) {
                n += numbers[i];
            }
            return n;
        }

        static Find withSherds(Find old, int type, int n) {
            int[] numbers = old == null ? new int[TYPES] : old.numbers.clone();
            if (type >= 0 && type < numbers.length) {
                numbers[type] = n;
            }
            return new Find(SHERDS, SURE, numbers);
        }

        /** How many letters the bytes are; 0: a byte is none. */
        static int lettersOf(long w) {
            int letters = 0;
            for (int shift = 56; shift >= 0; shift -= 8) {
                int b = (int) (w >>> shift & 255);
                if (b != 0 && (b < 32 || b > 126)) {
                    return 0;
                }
                letters += b == 0 ? 0 : 1;
            }
            return letters;
        }

        static Find withLetters(Find old, long w, int length) {
            int[] letters = new int[Math.max(length, 0)];
            int at = 0;
            for (int i = 0; old != null && i < old.numbers.length && at < letters.length; i++) {
                letters[at] = old.numbers[i];
                at++;
            }
            for (int shift = 56; shift >= 0; shift -= 8) {
                int b = (int) (w >>> shift & 255);
                if (b != 0 && at < letters.length) {
                    letters[at] = b;
                    at++;
                }
            }
            return new Find(NOTE, SURE, letters);
        }

        static int plainBits(int bits) {
            return (bits & SIZE_BITS) > EXPONENT ? NO_NUMBER_BITS : bits;
        }

        private static boolean isFinite(int bits) {
            return (bits & EXPONENT) != EXPONENT;
        }

        private static boolean isBelowZero(int bits) {
            return bits < 0 && (bits & SIZE_BITS) != 0;
        }

        /** Every step is exact: the value has at most 24 places and none below 2 to the -149. */
        private static float floatOf(int bits) {
            int exponent = (bits & EXPONENT) >> 23;
            int fraction = bits & FRACTION;
            float size = exponent == 0 ? fraction : fraction + FRACTION + 1;
            int power = Math.max(exponent, 1) - 150;
            float factor = power < 0 ? 0.5f : 2f;
            for (int left = Math.abs(power); left > 0; left >>= 1) {
                if ((left & 1) == 1) {
                    size *= factor;
                }
                factor *= factor;
            }
            return bits < 0 ? -size : size;
        }
    }

    /** TRAYS and BAGS, what lies in them, and the JOINS. */
    private static final class Trays {
        private static final int EMPTY = -1, NOWHERE = -1;

        private final Column owners;
        private final Column sizes;
        private final Column lost;
        /** Of a BAG the SLOT that it lies in, or lay in when its TRAY was LOST. */
        private final Column places;
        /** Of each SLOT which of the FINDS made it holds. */
        private final Column slots;
        private final Column joinOnes;
        private final Column joinOthers;
        private final Column trayCount;
        private final Column joinCount;
        private final Column findCount;
        private final Find[] made = new Find[MOST_ACTS];

        Trays(Book book) {
            owners = new Column(book, MOST_TRAYS, NONE);
            sizes = new Column(book, MOST_TRAYS, 0);
            lost = new Column(book, MOST_TRAYS, 0);
            places = new Column(book, MOST_TRAYS, NOWHERE);
            slots = new Column(book, MOST_TRAYS * MOST_SLOTS, EMPTY);
            joinOnes = new Column(book, MOST_JOINS, NONE);
            joinOthers = new Column(book, MOST_JOINS, NONE);
            trayCount = new Column(book, 1, 0);
            joinCount = new Column(book, 1, 0);
            findCount = new Column(book, 1, 0);
        }

        int size() {
            return trayCount.now[0];
        }

        boolean has(int tray) {
            return tray >= 0 && tray < size();
        }

        boolean areFull() {
            return size() >= MOST_TRAYS;
        }

        int ownedBy(int unit) {
            int owned = 0;
            for (int t = 0; t < size(); t++) {
                owned += owners.now[t] == unit ? 1 : 0;
            }
            return owned;
        }

        int add(int owner, int n) {
            int tray = size();
            owners.put(tray, owner);
            sizes.put(tray, n);
            trayCount.put(0, tray + 1);
            return tray;
        }

        boolean isLost(int tray) {
            return lost.now[tray] == 1;
        }

        void giveUp(int tray) {
            lost.put(tray, 1);
        }

        int slotsOf(int tray) {
            return isLost(tray) ? 0 : sizes.now[tray];
        }

        /** The FINDING against a SLOT of a TRAY that is there; 0: none. */
        int look(int tray, int slot) {
            if (isLost(tray)) {
                return NOTHING;
            }
            return slot < 0 || slot >= sizes.now[tray] ? BEYOND : 0;
        }

        int lookForSome(int tray, int slot) {
            int finding = look(tray, slot);
            if (finding != 0) {
                return finding;
            }
            return findAt(tray, slot) == null ? NOTHING : 0;
        }

        int lookFor(int tray, int slot, int kind) {
            int finding = look(tray, slot);
            if (finding != 0) {
                return finding;
            }
            Find held = findAt(tray, slot);
            if (held == null) {
                return NOTHING;
            }
            return held.kind == kind ? 0 : CAST;
        }

        /** As for a SLOT that may be EMPTY, too. */
        int lookForMore(int tray, int slot, int kind) {
            int finding = look(tray, slot);
            if (finding != 0) {
                return finding;
            }
            Find held = findAt(tray, slot);
            return held == null || held.kind == kind ? 0 : CAST;
        }

        /** Null: the SLOT is EMPTY, or not there. */
        Find findAt(int tray, int slot) {
            if (!has(tray) || slot < 0 || slot >= slotsOf(tray)) {
                return null;
            }
            int id = slots.now[tray * MOST_SLOTS + slot];
            return id < 0 || id >= made.length ? null : made[id];
        }

        void putNew(int tray, int slot, Find find) {
            int id = findCount.now[0];
            if (id < made.length) {
                made[id] = find;
                findCount.put(0, id + 1);
                slots.put(tray * MOST_SLOTS + slot, id);
            }
        }

        void putSame(int tray, int slot, int to, int other) {
            int from = tray * MOST_SLOTS + slot;
            if (from >= 0 && from < slots.now.length) {
                slots.put(to * MOST_SLOTS + other, slots.now[from]);
            }
        }

        void empty(int tray, int slot) {
            slots.put(tray * MOST_SLOTS + slot, EMPTY);
        }

        int barrierToCopy(int tray, int slot, int to, int other) {
            if (isLost(tray) || isLost(to)) {
                return NOTHING;
            }
            if (look(tray, slot) != 0 || look(to, other) != 0) {
                return BEYOND;
            }
            return holdsBag(tray, slot) || holdsBag(to, other) ? STATE : 0;
        }

        private boolean holdsBag(int tray, int slot) {
            Find held = findAt(tray, slot);
            return held != null && held.kind == BAG;
        }

        void setPlace(int bag, int tray, int slot) {
            places.put(bag, tray * MOST_SLOTS + slot);
        }

        void unplace(int bag) {
            places.put(bag, NOWHERE);
        }

        /** The TRAY or BAG that a BAG lies in; NONE: in none. */
        private int holderOf(int tray) {
            int at = places.now[tray];
            if (at < 0 || isLost(at / MOST_SLOTS)) {
                return NONE;
            }
            return at / MOST_SLOTS;
        }

        /** Whether a TRAY is the BAG, or lies in it. */
        boolean isWithin(int tray, int bag) {
            int at = tray;
            for (int depth = 0; depth < MOST_TRAYS && at != bag && at >= 0; depth++) {
                at = holderOf(at);
            }
            return at == bag;
        }

        /** NONE: it lies in none. */
        int unitOf(int tray) {
            int at = tray;
            for (int depth = 0; depth < MOST_TRAYS && holderOf(at) >= 0; depth++) {
                at = holderOf(at);
            }
            return owners.now[at];
        }

        int joinsMade() {
            return joinCount.now[0];
        }

        int addJoin(int one, int other) {
            int n = joinsMade();
            joinOnes.put(n, one);
            joinOthers.put(n, other);
            joinCount.put(0, n + 1);
            return n + 1;
        }

        int joinsOf(int a, int b) {
            int n = 0;
            for (int j = 0; j < joinsMade(); j++) {
                int one = joinOnes.now[j];
                int other = joinOthers.now[j];
                n += one == a && other == b || one == b && other == a ? 1 : 0;
            }
            return n;
        }

        /** UNIT NONE: in any; TYPE NONE: of all. */
        int sherdsIn(int unit, int type) {
            int n = 0;
            for (int t = 0; t < size(); t++) {
                int in = unitOf(t);
                if (in >= 0 && (unit == NONE || unit == in)) {
                    n += sherdsOfTray(t, type);
                }
            }
            return n;
        }

        private int sherdsOfTray(int tray, int type) {
            int n = 0;
            for (int s = 0; s < slotsOf(tray); s++) {
                Find held = findAt(tray, s);
                if (held != null && held.kind == SHERDS) {
                    n += type == NONE ? held.sum() : held.numberAt(type);
                }
            }
            return n;
        }

        long digestOn(long before) {
            long h = before;
            for (int t = 0; t < size(); t++) {
                h = 31 * h + (isLost(t) ? -1 : sizes.now[t]);
                for (int s = 0; s < slotsOf(t); s++) {
                    h = digestOfSlot(h, findAt(t, s));
                }
            }
            for (int j = 0; j < joinsMade(); j++) {
                h = 31 * h + joinOnes.now[j];
                h = 31 * h + joinOthers.now[j];
            }
            return h;
        }

        private static long digestOfSlot(long before, Find held) {
            if (held == null) {
                return 31 * before + NONE;
            }
            long h = 31 * before + held.kind;
            h = 31 * h + held.mark;
            if (held.kind == NOTE) {
                h = 31 * h + held.numbers.length;
            }
            for (int i = 0; i < held.numbers.length; i++) {
                h = 31 * h + held.numbers[i];
            }
            return h;
        }
    }

    /** The BOUNDS, THE SPANS that are drawn from them, and THE QUARREL. */
    private static final class Years {
        /** Floats from here on are whole, and the cast alone rounds them, at its own ends, too. */
        private static final int ALL_WHOLE = 1 << 24;

        private final Book book;
        private final Units units;
        private final Web web;
        private final Trays trays;
        private final Bodies bodies;
        private final int[] lows = new int[MOST_UNITS];
        private final int[] lowTrays = new int[MOST_UNITS];
        private final int[] lowSlots = new int[MOST_UNITS];
        private final int[] highs = new int[MOST_UNITS];
        private final int[] highTrays = new int[MOST_UNITS];
        private final int[] highSlots = new int[MOST_UNITS];
        /** Of each BLOCK the UNIT with its greatest bound from below, and its least one from above. */
        private final int[] lowUnits = new int[MOST_UNITS];
        private final int[] highUnits = new int[MOST_UNITS];
        private final Trail trail = new Trail();
        private int seen = -1;
        private int quarrelSeen = -1;
        private int belowBlock;
        private int aboveBlock;

        Years(Book book, Units units, Web web, Trays trays, Bodies bodies) {
            this.book = book;
            this.units = units;
            this.web = web;
            this.trays = trays;
            this.bodies = bodies;
        }

        int beginOf(int block) {
            refresh();
            int begin = FIRST_YEAR;
            for (int u = 0; u < units.size(); u++) {
                int b = units.blockOf(u);
                if (lows[u] > begin && (b == block || web.leads(block, b))) {
                    begin = lows[u];
                }
            }
            return begin;
        }

        int endOf(int block) {
            refresh();
            int end = LAST_YEAR;
            for (int u = 0; u < units.size(); u++) {
                int b = units.blockOf(u);
                if (highs[u] < end && (b == block || web.leads(b, block))) {
                    end = highs[u];
                }
            }
            return end;
        }

        private void refresh() {
            if (seen == book.edition()) {
                return;
            }
            seen = book.edition();
            for (int u = 0; u < units.size(); u++) {
                lows[u] = units.firsts.now[u];
                lowTrays[u] = NONE;
                lowSlots[u] = NONE;
                highs[u] = units.lasts.now[u];
                highTrays[u] = NONE;
                highSlots[u] = NONE;
            }
            for (int t = 0; t < trays.size(); t++) {
                int unit = trays.unitOf(t);
                if (units.has(unit)) {
                    boundByTray(unit, t);
                }
            }
            chooseForBlocks();
        }

        private void boundByTray(int unit, int tray) {
            int margin = bodies.answer(units, unit, MARGIN);
            boolean both = bodies.answer(units, unit, BOTH) == 1;
            for (int s = 0; s < trays.slotsOf(tray); s++) {
                Find held = trays.findAt(tray, s);
                if (held == null) {
                    continue;
                }
                if (held.kind == COIN) {
                    boundBelow(unit, tray, s, held, held.numberAt(0));
                    if (both) {
                        boundAbove(unit, tray, s, held, held.numberAt(1) + COIN_IN_USE);
                    }
                } else if (held.bounds) {
                    float wide = held.spread + margin;
                    boundBelow(unit, tray, s, held, roundedDown(held.year - wide));
                    boundAbove(unit, tray, s, held, roundedUp(held.year + wide));
                }
            }
        }

        private static boolean mayHaveParts(float x) {
            return x > -ALL_WHOLE && x < ALL_WHOLE;
        }

        private static int roundedDown(float x) {
            int whole = (int) x;
            return mayHaveParts(x) && whole > x ? whole - 1 : whole;
        }

        private static int roundedUp(float x) {
            int whole = (int) x;
            return mayHaveParts(x) && whole < x ? whole + 1 : whole;
        }

        private void boundBelow(int unit, int tray, int slot, Find held, int bound) {
            if (held.mark != INTRUSIVE && bound > lows[unit]) {
                lows[unit] = bound;
                lowTrays[unit] = tray;
                lowSlots[unit] = slot;
            }
        }

        private void boundAbove(int unit, int tray, int slot, Find held, int bound) {
            if (held.mark != RESIDUAL && bound < highs[unit]) {
                highs[unit] = bound;
                highTrays[unit] = tray;
                highSlots[unit] = slot;
            }
        }

        private void chooseForBlocks() {
            for (int u = 0; u < units.size(); u++) {
                int b = units.blockOf(u);
                if (b == u || lows[u] > lows[lowUnits[b]]) {
                    lowUnits[b] = u;
                }
                if (b == u || highs[u] < highs[highUnits[b]]) {
                    highUnits[b] = u;
                }
            }
        }

        boolean isQuarrel() {
            refresh();
            if (quarrelSeen != seen) {
                quarrelSeen = seen;
                seekQuarrel();
            }
            return belowBlock >= 0;
        }

        private void seekQuarrel() {
            web.refresh();
            belowBlock = NONE;
            aboveBlock = NONE;
            int least = MOST_UNITS;
            for (int x = 0; x < units.size(); x++) {
                // Nothing is told of a UNIT that names no BLOCK; and no row is shorter than none.
                if (units.blockOf(x) != x || least == 0) {
                    continue;
                }
                trail.measure(web, x);
                for (int y = 0; y < units.size(); y++) {
                    int steps = trail.stepsFrom(y);
                    if (steps >= 0 && steps < least && lows[lowUnits[x]] > highs[highUnits[y]]) {
                        least = steps;
                        belowBlock = x;
                        aboveBlock = y;
                    }
                }
            }
            if (belowBlock >= 0) {
                trail.walk(web, aboveBlock, belowBlock);
            }
        }

        int quarrelLength() {
            return trail.length();
        }

        /** Only when there is a QUARREL. */
        int quarrelPart(int what) {
            int below = lowUnits[Math.max(belowBlock, 0)];
            int above = highUnits[Math.max(aboveBlock, 0)];
            switch (what) {
                case 0:
                    return below;
                case 1:
                    return lows[below];
                case 2:
                    return lowTrays[below];
                case 3:
                    return lowSlots[below];
                case 4:
                    return above;
                case 5:
                    return highs[above];
                case 6:
                    return highTrays[above];
                case 7:
                    return highSlots[above];
                default:
                    return trail.relationAt(what - 8);
            }
        }
    }

    /** SEQUENCES of 16 BLOCKS at most, by their places among the names. */
    private static final class Sequences {
        private final Units units;
        private final Web web;
        private final int[] names = new int[MOST_BLOCKS_IN_ROW];
        private final int[] placeOfName = new int[MOST_UNITS];
        /** Of each BLOCK, as bits, those that a RELATION leads to from it. */
        private final int[] behind = new int[MOST_BLOCKS_IN_ROW];
        private final int[] hand = new int[MOST_BLOCKS_IN_ROW];
        private int length;
        private int seen = -1;
        private int handSeen = -1;
        private int countSeen = -1;
        private long counted;
        /** Of a part that hangs together: its BLOCKS, and of each those behind which it stands, as bits of the part. */
        private final int[] part = new int[MOST_BLOCKS_IN_ROW];
        private final int[] partBehind = new int[MOST_BLOCKS_IN_ROW];
        private long[] ways = new long[16];

        Sequences(Units units, Web web) {
            this.units = units;
            this.web = web;
        }

        private void refresh() {
            int blocks = units.blocks();
            if (seen == units.edition || blocks > MOST_BLOCKS_IN_ROW) {
                return;
            }
            seen = units.edition;
            web.refresh();
            length = 0;
            for (int u = 0; u < units.size() && length < blocks; u++) {
                if (units.blockOf(u) == u) {
                    names[length] = u;
                    placeOfName[u] = length;
                    behind[length] = 0;
                    length++;
                }
            }
            for (int r = 0; r < web.size(); r++) {
                int from = placeOfName[web.laterBlocks[r]];
                behind[from] |= 1 << placeOfName[web.earlierBlocks[r]];
            }
        }

        boolean isAtHand() {
            return handSeen == units.edition;
        }

        int nameAt(int i) {
            return isAtHand() && i >= 0 && i < length ? names[hand[i]] : NONE;
        }

        int begin() {
            refresh();
            handSeen = units.edition;
            complete(0, 0);
            return length;
        }

        /** From a place on: always the least BLOCK that may come. */
        private void complete(int from, int used) {
            int taken = used;
            for (int i = from; i < length; i++) {
                int b = leastFrom(0, taken);
                if (b >= length) {
                    return;
                }
                hand[i] = b;
                taken |= 1 << b;
            }
        }

        /** The least BLOCK from one on that may come behind those taken; length: there is none. */
        private int leastFrom(int from, int taken) {
            for (int b = from; b < length; b++) {
                if ((taken >> b & 1) == 0 && (behind[b] & ~taken) == 0) {
                    return b;
                }
            }
            return length;
        }

        boolean step() {
            int taken = (1 << length) - 1;
            for (int i = length - 1; i >= 0; i--) {
                taken &= ~(1 << hand[i]);
                int b = leastFrom(hand[i] + 1, taken);
                if (b < length) {
                    hand[i] = b;
                    complete(i + 1, taken | 1 << b);
                    return true;
                }
            }
            return false;
        }

        long howMany() {
            refresh();
            if (countSeen != units.edition) {
                countSeen = units.edition;
                counted = countParts();
            }
            return counted;
        }

        /** Parts that do not hang together are counted apart, and mixed in all ways: that spares most of the sets. */
        private long countParts() {
            long all = 1;
            int placed = 0;
            int seenBlocks = 0;
            for (int b = 0; b < length; b++) {
                if ((seenBlocks >> b & 1) == 1) {
                    continue;
                }
                int blocks = hangingWith(b);
                seenBlocks |= blocks;
                int size = layOut(blocks);
                all *= countPart(size);
                for (int i = 1; i <= size; i++) {
                    placed++;
                    all = all * placed / i;
                }
            }
            return all;
        }

        private int hangingWith(int block) {
            int blocks = 1 << block;
            for (int round = 0; round < length; round++) {
                for (int b = 0; b < length; b++) {
                    if ((blocks >> b & 1) == 1) {
                        blocks |= behind[b];
                    } else if ((behind[b] & blocks) != 0) {
                        blocks |= 1 << b;
                    }
                }
            }
            return blocks;
        }

        private int layOut(int blocks) {
            int size = 0;
            for (int b = 0; b < length; b++) {
                if ((blocks >> b & 1) == 1) {
                    part[size] = b;
                    size++;
                }
            }
            for (int i = 0; i < size; i++) {
                partBehind[i] = 0;
                for (int j = 0; j < size; j++) {
                    partBehind[i] |= (behind[part[i]] >> part[j] & 1) << j;
                }
            }
            return size;
        }

        private long countPart(int size) {
            int sets = 1 << size;
            if (ways.length < sets) {
                ways = new long[sets];
            }
            for (int set = 0; set < sets; set++) {
                ways[set] = 0;
            }
            ways[0] = 1;
            for (int set = 0; set < sets; set++) {
                if (ways[set] != 0) {
                    spread(set, size);
                }
            }
            return ways[sets - 1];
        }

        /** Each way to place a set goes on with each BLOCK that may come next. */
        private void spread(int set, int size) {
            for (int b = 0; b < size; b++) {
                if ((set >> b & 1) == 0 && (partBehind[b] & ~set) == 0) {
                    ways[set | 1 << b] += ways[set];
                }
            }
        }
    }
}
