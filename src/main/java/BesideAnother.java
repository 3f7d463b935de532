import java.util.NoSuchElementException;

/** Books that are read only beside another, as ../shared/DOC.md promises them; README.md tells how to use it. */
public final class BesideAnother {

    public static final int NONE = -1;

    private static final int NOT_SO = -2;
    private static final int TOO_MANY = -3;
    private static final int MISSING = -3;
    private static final int NO_BOOK = -100;

    // Why an ACT is refused.
    private static final int OPEN_OR_NOT = -2;
    private static final int NO_LIMIT = -3;
    private static final int NO_ROOM = -4;
    private static final int MAY_NOT = -5;

    private static final int BOOKS = 12;
    private static final int TABLES = 3;
    private static final int READERS = 6;
    private static final int SETS = 1 << BOOKS;
    private static final int MOST_LIMIT = 99;
    private static final int MOST_ROOM = 6;
    private static final int BOOK_SIGNS = 60;
    private static final int RULE_SIGNS = 40;
    private static final int MOST_HOURS = 50;
    private static final int LOG_ENTRIES = 60;
    private static final int KEPT = 3;
    private static final int STATES = 5000;

    // The number of an ACT is 20 times its kind, and the BOOK: kinds 0 .. 2 OPEN on that TABLE,
    // 3 SHUTS, 4 .. 6 HAND to the TABLE that is 4 less.
    private static final int KINDS = 7;
    private static final int SHUT = 3;
    private static final int HAND = 4;
    private static final int KIND = 20;
    private static final int ACTS_TOLD = 10;
    private static final int ACTS_THAT_CAN = 8;

    private static final int READ_IT = 1;
    private static final int OPENED_IT = 2;
    private static final int SHUT_IT = 3;

    private final Text text = new Text();
    private final Tables tables = new Tables();
    private final Search search = new Search();
    private final Survey survey = new Survey();
    private final Expression rule = new Expression();
    private final Reader[] readers = new Reader[READERS];
    private final Kept[] kept = new Kept[KEPT];
    private int readerCount;
    private long now;
    private int hourCount;
    private final int[] log = new int[LOG_ENTRIES];
    private int logged;
    private final int[] row = new int[BOOKS];
    private int rowSize;

    // Rows that calls use again, so that no call makes one.
    private final int[] line = new int[READERS];
    private final int[] worths = new int[READERS];
    private final int[] tally = new int[BOOKS];
    private final int[] links = new int[BOOKS];
    private final int[] near = new int[BOOKS + 1];

    public BesideAnother() {
        for (int i = 0; i < READERS; i++) {
            readers[i] = new Reader();
        }
        for (int i = 0; i < KEPT; i++) {
            kept[i] = new Kept();
        }
    }

    // ---- books

    public int sign(int v) {
        return text.append(v);
    }

    public boolean end(int n) {
        return text.cut(n);
    }

    public int book(int i) {
        boolean more = i == BOOKS && tables.count < BOOKS;
        if (!more && !tables.has(i)) {
            text.clear();
            return NO_BOOK;
        }
        int fault = text.parse(BOOK_SIGNS, true);
        if (fault != NONE) {
            return -1 - fault;
        }
        int number = more ? tables.count : i;
        if (more) {
            tables.count++;
        }
        tables.books[number].tell(text);
        tables.forget();
        int table = tableOf(now, number);
        if (table != NONE) {
            now = tables.settled(now, table);
        }
        return number;
    }

    public int rule() {
        if (text.size == 0) {
            rule.clear();
            return 0;
        }
        int fault = text.parse(RULE_SIGNS, false);
        if (fault != NONE) {
            return -1 - fault;
        }
        rule.copy(text.first);
        return 0;
    }

    public int set(int what, int i, int v) {
        if (what == 0 && tables.has(i) && v >= 0 && v <= MOST_LIMIT) {
            int was = tables.books[i].limit;
            tables.books[i].limit = v;
            return was;
        }
        if (what == 1 && isTable(i) && v >= 1 && v <= MOST_ROOM) {
            int was = tables.room[i];
            tables.room[i] = v;
            return was;
        }
        return NONE;
    }

    public int sheet(int kind, int n, int f, int step) {
        if (kind < 0 || kind > 3 || n > BOOKS) {
            return NONE;
        }
        if (kind < 3 && n < 0) {
            return NOT_SO;
        }
        int told = kind == 3 ? 0 : n;
        int sum = 0;
        for (int i = 0; i < tables.count; i++) {
            int limit = i < told ? entry(kind, f + i * step) : MOST_LIMIT;
            tables.books[i].limit = limit;
            sum += limit;
        }
        return kind == 3 ? MISSING : sum;
    }

    /** An entry as its sheet can hold it, put to what a LIMIT can be. */
    private static int entry(int kind, int whole) {
        int held = kind == 0 ? (byte) whole : kind == 1 ? (short) whole : whole;
        return Math.max(0, Math.min(MOST_LIMIT, held));
    }

    public int about(int book, int what) throws NoSuchElementException {
        if (!tables.has(book)) {
            throw new NoSuchElementException("no such book");
        }
        Book it = tables.books[book];
        switch (what) {
            case 0:
                return it.limit;
            case 1:
                return it.opened;
            case 2:
                return tableOf(now, book);
            case 3:
                return it.readBy;
            case 4:
                return it.isLater() ? 1 : 0;
            default:
                throw new NoSuchElementException("nothing such is told of a book");
        }
    }

    // ---- acts

    public int open(int table) {
        return isTable(table) ? on(now, table) : NONE;
    }

    public int value(int book, int table) throws NoSuchElementException {
        if (!tables.has(book) || !isTable(table)) {
            throw new NoSuchElementException("no such book or table");
        }
        Book it = tables.books[book];
        return it.condition().worth(on(now, table), it.readBy, table);
    }

    public int act(int act) {
        int refusal = tables.refusal(now, tables.spent(), act);
        return refusal != 0 ? refusal : make(act);
    }

    /** Makes an ACT that is not refused: the BOOKS that SETTLED shut by it. */
    private int make(int act) {
        int bit = 1 << act % KIND;
        boolean shuts = act / KIND == SHUT;
        int before = shuts ? anywhere(now) & ~bit : anywhere(now) | bit;
        if (act / KIND < SHUT) {
            tables.books[act % KIND].opened++;
        }
        now = tables.after(now, act);
        return before & ~anywhere(now);
    }

    public int why(int act) {
        return tables.refusal(now, tables.spent(), act);
    }

    public int can() {
        int spent = tables.spent();
        int many = 0;
        rowSize = 0;
        for (int kind = 0; kind < KINDS; kind++) {
            int books = kind == SHUT ? 0 : tables.possible(now, spent, kind);
            for (int book = 0; book < BOOKS; book++) {
                if ((books >> book & 1) != 0) {
                    many++;
                    if (many <= ACTS_THAT_CAN) {
                        tell(kind * KIND + book);
                    }
                }
            }
        }
        return many;
    }

    public int night(int keep) {
        if (tables.beyond(keep)) {
            return NONE;
        }
        for (int table = 0; table < TABLES; table++) {
            now = with(now, table, on(now, table) & keep);
            now = tables.settled(now, table);
        }
        return anywhere(now);
    }

    public int judge(int n, int a, int b) {
        if (n < 0 || n > 8) {
            return NONE;
        }
        for (int i = 0; i < tables.count; i++) {
            tally[i] = tables.books[i].opened;
        }
        long state = now;
        int first = NOT_SO;
        for (int k = 0; k < n && first == NOT_SO; k++) {
            int act = (k < 4 ? a >>> 8 * k : b >>> 8 * (k - 4)) & 255;
            if (tables.refusal(state, spentBy(tally), act) != 0) {
                first = k;
            } else {
                if (act / KIND < SHUT) {
                    tally[act % KIND]++;
                }
                state = tables.after(state, act);
            }
        }
        rowSize = 0;
        for (int table = 0; table < TABLES; table++) {
            tell(on(state, table));
        }
        return first;
    }

    /** BOOKS that would have no LIMIT left if they had been opened so often. */
    private int spentBy(int[] opened) {
        int spent = 0;
        for (int i = 0; i < tables.count; i++) {
            if (opened[i] >= tables.books[i].limit) {
                spent |= 1 << i;
            }
        }
        return spent;
    }

    // ---- readers

    public int reader(int table, int list) {
        if (!isTable(table) || tables.beyond(list) || readerCount >= READERS) {
            return NONE;
        }
        readers[readerCount].begin(table, list);
        readerCount++;
        return readerCount - 1;
    }

    public int sit(int reader, int table) {
        if (!isReader(reader) || !isTable(table)) {
            return NONE;
        }
        int was = readers[reader].table;
        readers[reader].table = table;
        return was;
    }

    public int read(int reader, int book) {
        if (!isReader(reader) || !tables.has(book)) {
            return NONE;
        }
        if ((on(now, readers[reader].table) >> book & 1) == 0) {
            return NOT_SO;
        }
        finishBook(readers[reader], book);
        return tables.books[book].readBy;
    }

    /** The READER has READ a BOOK on its TABLE, which SETTLES. */
    private void finishBook(Reader reader, int book) {
        if ((reader.read >> book & 1) == 0) {
            reader.read |= 1 << book;
            tables.books[book].readBy++;
            tables.forget();
        }
        now = tables.settled(now, reader.table);
    }

    public int of(int reader, int what) throws NoSuchElementException {
        if (!isReader(reader)) {
            throw new NoSuchElementException("no such reader");
        }
        Reader it = readers[reader];
        switch (what) {
            case 0:
                return it.table;
            case 1:
                return it.list;
            case 2:
                return it.read;
            case 3:
                return it.left();
            default:
                throw new NoSuchElementException("nothing such is told of a reader");
        }
    }

    public int hours(int n) {
        if (n < 0 || n > MOST_HOURS) {
            return NONE;
        }
        int done = 0;
        boolean idle = false;
        while (done < n && !idle) {
            lineUp();
            idle = true;
            for (int k = 0; k < readerCount; k++) {
                if (turn(line[k])) {
                    idle = false;
                }
            }
            done++;
            hourCount++;
        }
        rowSize = 0;
        tell(idle ? 1 : 0);
        tell(satisfied());
        return done;
    }

    private int satisfied() {
        int found = 0;
        for (int i = 0; i < readerCount; i++) {
            if (readers[i].left() == 0) {
                found |= 1 << i;
            }
        }
        return found;
    }

    /** Puts READERS into line: the greater by THE RULE first, of equal ones the lesser number. */
    private void lineUp() {
        for (int i = 0; i < readerCount; i++) {
            Reader it = readers[i];
            worths[i] = rule.worth(on(now, it.table), Integer.bitCount(it.read), it.table);
            int at = i;
            while (at > 0 && worths[line[at - 1]] < worths[i]) {
                line[at] = line[at - 1];
                at--;
            }
            line[at] = i;
        }
    }

    /** What one READER does in an HOUR, with its entry in THE LOG: whether it is anything. */
    private boolean turn(int who) {
        Reader reader = readers[who];
        int left = reader.left();
        int table = reader.table;
        int book = lowest(left & on(now, table));
        if (book != NONE) {
            finishBook(reader, book);
            note(who, READ_IT, book);
            return true;
        }
        int could = tables.possible(now, tables.spent(), table);
        book = lowest(left & could);
        if (book == NONE) {
            book = leading(could, table, reader);
        }
        if (book != NONE) {
            make(table * KIND + book);
            note(who, OPENED_IT, book);
            return true;
        }
        book = leading(on(now, table), SHUT, reader);
        if (book != NONE) {
            make(SHUT * KIND + book);
            note(who, SHUT_IT, book);
            return true;
        }
        note(who, 0, 0);
        return false;
    }

    /**
     * The first of these BOOKS behind whose ACT the READER could OPEN one that is left of its LIST.
     * None of these BOOKS is left itself (it would have been OPENED or READ at once), so what is spent stays so.
     */
    private int leading(int books, int kind, Reader reader) {
        int left = reader.left();
        int spent = tables.spent();
        for (int book = 0; book < BOOKS && left != 0; book++) {
            if ((books >> book & 1) != 0) {
                long then = tables.after(now, kind * KIND + book);
                if ((left & tables.possible(then, spent, reader.table)) != 0) {
                    return book;
                }
            }
        }
        return NONE;
    }

    private void note(int who, int what, int book) {
        log[logged % LOG_ENTRIES] = 100 * who + 20 * what + book;
        logged++;
    }

    public int log(int k) {
        if (k < 0) {
            return NONE;
        }
        return k < logKept() ? log[(logged - 1 - k) % LOG_ENTRIES] : NOT_SO;
    }

    private int logKept() {
        return Math.min(logged, LOG_ENTRIES);
    }

    public int order() {
        lineUp();
        rowSize = 0;
        for (int k = 0; k < readerCount; k++) {
            tell(line[k]);
        }
        return readerCount;
    }

    public int ring() {
        for (int i = 0; i < readerCount; i++) {
            links[i] = 0;
            for (int k = 0; k < readerCount; k++) {
                int table = readers[k].table;
                if (table != readers[i].table && (readers[i].left() & on(now, table)) != 0) {
                    links[i] |= 1 << k;
                }
            }
        }
        return tellRing(readerCount);
    }

    /** Tells the shortest ring along the links of the first ones, of as short the least: how many; 0: none. */
    private int tellRing(int many) {
        int best = 0;
        int least = 0;
        for (int start = 0; start < many; start++) {
            int length = ringFrom(start, many);
            if (length > 0 && (best == 0 || length < best)) {
                best = length;
                least = start;
            }
        }
        if (best == 0) {
            return 0;
        }
        ringFrom(least, many);
        rowSize = 0;
        int who = least;
        for (int left = best; left > 0 && who != NONE; left--) {
            tell(who);
            who = lowest(links[who] & near[left - 1]);
        }
        return best;
    }

    /** How long the shortest ring is of which this one is the least; near then has who is how many links ahead of it. */
    private int ringFrom(int start, int many) {
        near[0] = 1 << start;
        for (int length = 1; length <= many; length++) {
            int found = 0;
            for (int who = start; who < many; who++) {
                if ((links[who] & near[length - 1]) != 0) {
                    found |= 1 << who;
                }
            }
            near[length] = found;
            if ((found >> start & 1) != 0) {
                return length;
            }
        }
        return 0;
    }

    // ---- what one book needs

    public int needs(int book, int table) {
        if (!tables.has(book) || !isTable(table)) {
            return NONE;
        }
        look(book, table);
        return survey.inAll;
    }

    public int bars(int book, int table) {
        if (!tables.has(book) || !isTable(table)) {
            return NONE;
        }
        look(book, table);
        return tables.all() & ~(1 << book) & ~survey.inAny;
    }

    public int least(int book, int table) {
        if (!tables.has(book) || !isTable(table)) {
            return NONE;
        }
        look(book, table);
        if (survey.many == 0) {
            return NOT_SO;
        }
        rowSize = 0;
        tell(survey.least);
        tell(survey.many);
        return survey.fewest;
    }

    /** Surveys the sets of others by which a BOOK MAY be on a TABLE. */
    private void look(int book, int table) {
        int others = tables.all() & ~(1 << book);
        survey.begin(others);
        for (int set = 0; set <= others; set++) {
            if ((set & ~others) == 0 && Integer.bitCount(set) < tables.room[table]
                    && (tables.mayBy(table, set) >> book & 1) != 0) {
                survey.take(set);
            }
        }
    }

    public int knot(int table) {
        if (!isTable(table)) {
            return NONE;
        }
        for (int book = 0; book < tables.count; book++) {
            look(book, table);
            links[book] = survey.many == 0 ? 1 << book : survey.inAll;
        }
        return tellRing(tables.count);
    }

    // ---- one table

    public int hold(int table) {
        if (!isTable(table)) {
            return NONE;
        }
        int many = 0;
        int best = 0;
        for (int set = 0; set <= tables.all(); set++) {
            if (Integer.bitCount(set) <= tables.room[table] && (set & ~tables.mayBy(table, set)) == 0) {
                many++;
                if (Integer.bitCount(set) > Integer.bitCount(best)) {
                    best = set;
                }
            }
        }
        rowSize = 0;
        tell(best);
        return many;
    }

    public int comes(int table) {
        if (!isTable(table)) {
            return NONE;
        }
        searchTable(table);
        return tellReach();
    }

    private void searchTable(int table) {
        search.clear();
        search.seed(0L);
        search.spread(tables, table);
    }

    /** Tells the BOOKS that come in the search, and the most ACTS: how many states came. */
    private int tellReach() {
        rowSize = 0;
        tell(search.union());
        tell(search.farthest());
        return search.size;
    }

    public int together(int table, int books) {
        if (!isTable(table) || tables.beyond(books)) {
            return NONE;
        }
        searchTable(table);
        return tellWay(search.firstWith(books));
    }

    /** Tells the ACTS by which a state came: how many; -2 for none. */
    private int tellWay(int state) {
        if (state == NONE) {
            return NOT_SO;
        }
        int many = search.depth[state];
        rowSize = Math.min(many, ACTS_TOLD);
        int at = state;
        for (int k = many - 1; k >= 0 && at != NONE; k--) {
            if (k < rowSize) {
                row[k] = search.acts[at];
            }
            at = search.from[at];
        }
        return many;
    }

    public int frees(int table) {
        if (!isTable(table)) {
            return NONE;
        }
        if (tables.count == 0) {
            return NOT_SO;
        }
        int spent = tables.spent();
        int best = 0;
        int freed = 0;
        for (int book = 0; book < tables.count; book++) {
            int others = tables.possible(with(0L, table, 1 << book), spent, table);
            if (book == 0 || Integer.bitCount(others) > Integer.bitCount(freed)) {
                best = book;
                freed = others;
            }
        }
        rowSize = 0;
        tell(Integer.bitCount(freed));
        tell(freed);
        return best;
    }

    public int keeps(int table, int books) {
        if (!isTable(table) || tables.beyond(books)) {
            return NONE;
        }
        int room = tables.room[table];
        search.clear();
        for (int set = 0; set <= tables.all(); set++) {
            if (Integer.bitCount(set) <= room) {
                search.seed(tables.settled(with(0L, table, set), table));
            }
        }
        search.spread(tables, table);
        search.gather();
        int best = NONE;
        for (int set = 0; set <= tables.all(); set++) {
            int many = Integer.bitCount(set);
            if (many <= room && (best == NONE || many < Integer.bitCount(best))) {
                int state = search.indexOf(tables.settled(with(0L, table, set), table));
                if (state != NONE && (books & ~search.can[state]) == 0) {
                    best = set;
                }
            }
        }
        if (best == NONE) {
            return NOT_SO;
        }
        rowSize = 0;
        tell(best);
        return Integer.bitCount(best);
    }

    public int finish(int table, int who) {
        if (!isTable(table) || who >> readerCount != 0) {
            return NONE;
        }
        int left = 0;
        for (int i = 0; i < readerCount; i++) {
            if ((who >> i & 1) != 0) {
                left |= readers[i].left();
            }
        }
        searchTable(table);
        return tellMissing(left & ~search.union());
    }

    /** 1 with an empty ROW if nothing is missing, else 0 with what is. */
    private int tellMissing(int missing) {
        rowSize = 0;
        if (missing == 0) {
            return 1;
        }
        tell(missing);
        return 0;
    }

    // ---- all tables, from now on

    public int reach() {
        return searchFrom(now) ? tellReach() : TOO_MANY;
    }

    private boolean searchFrom(long state) {
        search.clear();
        search.seed(state);
        return search.spread(tables, NONE);
    }

    public int soonest(int book) {
        if (!tables.has(book)) {
            return NONE;
        }
        return searchFrom(now) ? tellWay(search.firstWith(1 << book)) : TOO_MANY;
    }

    public int till(int a, int b, int c) {
        if (tables.beyond(a) || tables.beyond(b) || tables.beyond(c) || (a & b | a & c | b & c) != 0) {
            return NONE;
        }
        if (!searchFrom(now)) {
            return TOO_MANY;
        }
        return tellWay(search.indexOf(with(with(with(0L, 0, a), 1, b), 2, c)));
    }

    public int lost() {
        int there = anywhere(now);
        if (there == 0) {
            return 0;
        }
        // All that is open can be SHUT, so each of the searches comes to all that comes from nothing open,
        // and to just that if its first state is among it: one search answers for those.
        if (!searchFrom(0L)) {
            return TOO_MANY;
        }
        int others = 0;
        int gone = 0;
        for (int book = 0; book < BOOKS; book++) {
            if ((there >> book & 1) != 0) {
                if (search.indexOf(tables.after(now, SHUT * KIND + book)) == NONE) {
                    others |= 1 << book;
                } else {
                    gone |= 1 << book & ~search.union();
                }
            }
        }
        for (int book = 0; book < BOOKS; book++) {
            if ((others >> book & 1) != 0) {
                if (!searchFrom(tables.after(now, SHUT * KIND + book))) {
                    return TOO_MANY;
                }
                gone |= 1 << book & ~search.union();
            }
        }
        return gone;
    }

    public int free() {
        if (!searchFrom(now)) {
            return TOO_MANY;
        }
        search.gather();
        int all = search.union();
        rowSize = 0;
        for (int i = 0; i < search.size; i++) {
            if (search.can[i] != all) {
                tell(search.depth[i]);
                tell(all & ~search.can[i]);
                return 0;
            }
        }
        return 1;
    }

    // ---- kept

    public boolean keep(int i) {
        if (i < 0 || i >= KEPT) {
            return false;
        }
        Kept into = kept[i];
        into.used = true;
        into.state = now;
        into.hours = hourCount;
        into.logged = logged;
        into.readers = readerCount;
        System.arraycopy(log, 0, into.log, 0, LOG_ENTRIES);
        for (int k = 0; k < BOOKS; k++) {
            into.opened[k] = tables.books[k].opened;
        }
        for (int k = 0; k < READERS; k++) {
            into.tables[k] = readers[k].table;
            into.read[k] = readers[k].read;
        }
        return true;
    }

    public boolean again(int i) {
        if (i < 0 || i >= KEPT || !kept[i].used) {
            return false;
        }
        Kept was = kept[i];
        now = was.state;
        hourCount = was.hours;
        logged = was.logged;
        System.arraycopy(was.log, 0, log, 0, LOG_ENTRIES);
        for (int k = 0; k < BOOKS; k++) {
            tables.books[k].opened = was.opened[k];
            tables.books[k].readBy = 0;
        }
        for (int k = 0; k < readerCount; k++) {
            boolean since = k >= was.readers;
            readers[k].table = since ? readers[k].told : was.tables[k];
            readers[k].read = since ? 0 : was.read[k];
            tables.countIn(readers[k].read);
        }
        tables.forget();
        return true;
    }

    public int count(int what) {
        switch (what) {
            case 0:
                return tables.count;
            case 1:
                return readerCount;
            case 2:
                return hourCount;
            case 3:
                return anywhere(now);
            case 4:
                return logKept();
            case 5:
                return rowSize;
            case 6:
                return text.size;
            default:
                return NONE;
        }
    }

    public int row(int i) throws NoSuchElementException {
        if (i < 0 || i >= rowSize) {
            throw new NoSuchElementException("the row has no such number");
        }
        return row[i];
    }

    private void tell(int number) {
        if (rowSize < row.length) {
            row[rowSize] = number;
            rowSize++;
        }
    }

    // ---- what all of it uses

    private static boolean isTable(int table) {
        return table >= 0 && table < TABLES;
    }

    private boolean isReader(int reader) {
        return reader >= 0 && reader < readerCount;
    }

    /** The least number of a set of BOOKS or READERS; NONE of an empty one. */
    private static int lowest(int bits) {
        for (int i = 0; i < BOOKS; i++) {
            if ((bits >> i & 1) != 0) {
                return i;
            }
        }
        return NONE;
    }

    // A state, what is open where, is one long: 12 bits for each TABLE.

    private static int on(long state, int table) {
        return (int) (state >> BOOKS * table) & SETS - 1;
    }

    private static long with(long state, int table, int set) {
        int shift = BOOKS * table;
        return state & ~((long) (SETS - 1) << shift) | (long) set << shift;
    }

    private static int anywhere(long state) {
        return on(state, 0) | on(state, 1) | on(state, 2);
    }

    private static int tableOf(long state, int book) {
        for (int table = 0; table < TABLES; table++) {
            if ((on(state, table) >> book & 1) != 0) {
                return table;
            }
        }
        return NONE;
    }

    /** An EXPRESSION with each sign behind what it joins, so that a stack is enough to work it out; none is worth 0. */
    private static final class Expression {
        static final int LETTER = 100;
        static final int COUNT = 120;
        static final int TOLD = 121;
        static final int TABLE = 122;
        static final int NOT = 130;
        static final int OR = 131;
        static final int AND = 132;
        static final int LESS = 133;
        static final int MORE = 134;
        static final int SAME = 135;
        static final int PLUS = 136;
        static final int MINUS = 137;

        private final int[] code = new int[BOOK_SIGNS];
        private final int[] stack = new int[BOOK_SIGNS];
        private int size;

        void clear() {
            size = 0;
        }

        void append(int item) {
            if (size < code.length) {
                code[size] = item;
                size++;
            }
        }

        void copy(Expression other) {
            System.arraycopy(other.code, 0, code, 0, code.length);
            size = other.size;
        }

        int worth(int set, int told, int table) {
            int top = 0;
            for (int i = 0; i < size; i++) {
                int item = code[i];
                if (item < NOT && top < stack.length) {
                    stack[top] = item < LETTER ? item
                            : item < COUNT ? set >> item - LETTER & 1
                            : item == COUNT ? Integer.bitCount(set)
                            : item == TOLD ? told : table;
                    top++;
                } else if (item == NOT && top > 0) {
                    stack[top - 1] = stack[top - 1] == 0 ? 1 : 0;
                } else if (top > 1) {
                    top--;
                    stack[top - 1] = joined(item, stack[top - 1], stack[top]);
                }
            }
            return top > 0 ? stack[0] : 0;
        }

        private static int joined(int item, int left, int right) {
            switch (item) {
                case OR:
                    return left != 0 || right != 0 ? 1 : 0;
                case AND:
                    return left != 0 && right != 0 ? 1 : 0;
                case LESS:
                    return left < right ? 1 : 0;
                case MORE:
                    return left > right ? 1 : 0;
                case SAME:
                    return left == right ? 1 : 0;
                case PLUS:
                    return left + right;
                default:
                    return left - right;
            }
        }
    }

    /** THE TEXT, and its reading: what reads a part answers false when the sign at its place can't stand there. */
    private static final class Text {
        private static final int SIGNS = 80;
        private static final int NESTED = 4;

        final Expression first = new Expression();
        final Expression second = new Expression();
        int wanted;
        int size;
        private final int[] signs = new int[SIGNS];
        private Expression into = first;
        private int at;
        private int end;

        int append(int v) {
            if (size + 4 > SIGNS) {
                return NONE;
            }
            for (int shift = 24; shift >= 0; shift -= 8) {
                signs[size] = v >>> shift & 255;
                size++;
            }
            return size;
        }

        boolean cut(int n) {
            if (n < 0 || n > size) {
                return false;
            }
            size = n;
            return true;
        }

        void clear() {
            size = 0;
        }

        /** Reads THE TEXT, which is empty then: the place of the sign that can't stand there, or NONE. */
        int parse(int most, boolean two) {
            end = Math.min(size, most);
            at = 0;
            wanted = 0;
            second.clear();
            boolean good = whole(first) && (at == end || two && later()) && at == end && size <= most;
            size = 0;
            return good ? NONE : at;
        }

        private boolean later() {
            if (!takes(';') || at >= end || signs[at] < '1' || signs[at] > '6') {
                return false;
            }
            wanted = signs[at] - '0';
            at++;
            return takes(';') && whole(second);
        }

        private boolean whole(Expression expression) {
            into = expression;
            into.clear();
            return anyOf(0);
        }

        private boolean takes(int sign) {
            if (at < end && signs[at] == sign) {
                at++;
                return true;
            }
            return false;
        }

        private boolean anyOf(int depth) {
            if (!allOf(depth)) {
                return false;
            }
            while (at < end && signs[at] == '|') {
                at++;
                if (!allOf(depth)) {
                    return false;
                }
                into.append(Expression.OR);
            }
            return true;
        }

        private boolean allOf(int depth) {
            if (!compared(depth)) {
                return false;
            }
            while (at < end && signs[at] == '&') {
                at++;
                if (!compared(depth)) {
                    return false;
                }
                into.append(Expression.AND);
            }
            return true;
        }

        private boolean compared(int depth) {
            if (!sum(depth)) {
                return false;
            }
            int join = takes('<') ? Expression.LESS : takes('>') ? Expression.MORE : takes('=') ? Expression.SAME : 0;
            if (join != 0) {
                if (!sum(depth)) {
                    return false;
                }
                into.append(join);
            }
            return true;
        }

        private boolean sum(int depth) {
            if (!denied(depth)) {
                return false;
            }
            while (at < end && (signs[at] == '+' || signs[at] == '-')) {
                int join = signs[at] == '+' ? Expression.PLUS : Expression.MINUS;
                at++;
                if (!denied(depth)) {
                    return false;
                }
                into.append(join);
            }
            return true;
        }

        private boolean denied(int depth) {
            int many = 0;
            while (at < end && signs[at] == '!') {
                at++;
                many++;
            }
            if (!thing(depth)) {
                return false;
            }
            for (int i = 0; i < many; i++) {
                into.append(Expression.NOT);
            }
            return true;
        }

        private boolean thing(int depth) {
            if (takes('(')) {
                if (depth >= NESTED) {
                    at--;
                    return false;
                }
                return anyOf(depth + 1) && takes(')');
            }
            if (isDigit()) {
                int number = signs[at] - '0';
                at++;
                if (isDigit()) {
                    number = number * 10 + signs[at] - '0';
                    at++;
                }
                into.append(number);
                return true;
            }
            if (at < end && signs[at] >= 'a' && signs[at] < 'a' + BOOKS) {
                into.append(Expression.LETTER + signs[at] - 'a');
                at++;
                return true;
            }
            int name = takes('n') ? Expression.COUNT : takes('r') ? Expression.TOLD : takes('t') ? Expression.TABLE : 0;
            if (name != 0) {
                into.append(name);
            }
            return name != 0;
        }

        private boolean isDigit() {
            return at < end && signs[at] >= '0' && signs[at] <= '9';
        }
    }

    private static final class Book {
        private final Expression first = new Expression();
        private final Expression second = new Expression();
        private int wanted;
        int limit = MOST_LIMIT;
        int opened;
        int readBy;

        void tell(Text text) {
            first.copy(text.first);
            second.copy(text.second);
            wanted = text.wanted;
        }

        boolean isLater() {
            return wanted > 0 && readBy >= wanted;
        }

        Expression condition() {
            return isLater() ? second : first;
        }
    }

    private static final class Reader {
        int told;
        int table;
        int list;
        int read;

        void begin(int where, int books) {
            told = where;
            table = where;
            list = books;
        }

        int left() {
            return list & ~read;
        }
    }

    /** BOOKS and ROOM, and what they let be: which ACTS can be made in a state, and what is open behind them. */
    private static final class Tables {
        final Book[] books = new Book[BOOKS];
        final int[] room = {3, 3, 3};
        int count;
        private final int[] may = new int[TABLES * SETS];
        private final int[] known = new int[TABLES * SETS];
        private int stamp = 1;

        Tables() {
            for (int i = 0; i < BOOKS; i++) {
                books[i] = new Book();
            }
        }

        boolean has(int book) {
            return book >= 0 && book < count;
        }

        int all() {
            return (1 << count) - 1;
        }

        boolean beyond(int bits) {
            return bits >> count != 0;
        }

        /** To be called when a CONDITION or who has READ changes: what MAY be is worked out anew where it is asked. */
        void forget() {
            stamp++;
        }

        /** One more has READ each of these. */
        void countIn(int read) {
            for (int i = 0; i < BOOKS; i++) {
                books[i].readBy += read >> i & 1;
            }
        }

        int spent() {
            int spent = 0;
            for (int i = 0; i < count; i++) {
                if (books[i].opened >= books[i].limit) {
                    spent |= 1 << i;
                }
            }
            return spent;
        }

        /** BOOKS that MAY be on a TABLE by a set. */
        int mayBy(int table, int set) {
            int place = table * SETS + set;
            if (known[place] != stamp) {
                int found = 0;
                for (int i = 0; i < count; i++) {
                    if (books[i].condition().worth(set, books[i].readBy, table) != 0) {
                        found |= 1 << i;
                    }
                }
                may[place] = found;
                known[place] = stamp;
            }
            return may[place];
        }

        long settled(long state, int table) {
            int set = on(state, table);
            int still = set & mayBy(table, set);
            for (int round = 0; still != set && round < BOOKS; round++) {
                set = still;
                still = set & mayBy(table, set);
            }
            return with(state, table, set);
        }

        /** BOOKS whose ACTS of a kind can be made in a state, when these have no LIMIT left. */
        int possible(long state, int spent, int kind) {
            int there = anywhere(state);
            if (kind == SHUT) {
                return there;
            }
            int table = kind < SHUT ? kind : kind - HAND;
            int set = on(state, table);
            if (Integer.bitCount(set) >= room[table]) {
                return 0;
            }
            int these = kind < SHUT ? ~there & ~spent : there & ~set;
            return these == 0 ? 0 : these & mayBy(table, set);
        }

        /** Why an ACT would be refused in a state, when these BOOKS have no LIMIT left; 0: it would not. */
        int refusal(long state, int spent, int act) {
            if (act < 0 || act >= KINDS * KIND || !has(act % KIND)) {
                return NONE;
            }
            int kind = act / KIND;
            int book = act % KIND;
            int at = tableOf(state, book);
            if (kind == SHUT) {
                return at == NONE ? OPEN_OR_NOT : 0;
            }
            int table = kind < SHUT ? kind : kind - HAND;
            if (kind < SHUT ? at != NONE : at == NONE || at == table) {
                return OPEN_OR_NOT;
            }
            if (kind < SHUT && (spent >> book & 1) != 0) {
                return NO_LIMIT;
            }
            if (Integer.bitCount(on(state, table)) >= room[table]) {
                return NO_ROOM;
            }
            return (mayBy(table, on(state, table)) >> book & 1) == 0 ? MAY_NOT : 0;
        }

        /** What is open behind an ACT that is not refused. */
        long after(long state, int act) {
            int kind = act / KIND;
            int bit = 1 << act % KIND;
            int at = tableOf(state, act % KIND);
            long then = state;
            if (at != NONE) {
                then = settled(with(then, at, on(then, at) & ~bit), at);
            }
            if (kind != SHUT) {
                int table = kind < SHUT ? kind : kind - HAND;
                then = settled(with(then, table, on(then, table) | bit), table);
            }
            return then;
        }
    }

    /** The sets by which a BOOK MAY be on a TABLE, told one by one from the least on. */
    private static final class Survey {
        int inAll;
        int inAny;
        int fewest;
        int least;
        int many;

        void begin(int others) {
            inAll = others;
            inAny = 0;
            fewest = BOOKS;
            least = 0;
            many = 0;
        }

        void take(int set) {
            int size = Integer.bitCount(set);
            inAll &= set;
            inAny |= set;
            if (size < fewest) {
                fewest = size;
                least = set;
                many = 0;
            }
            if (size == fewest) {
                many++;
            }
        }
    }

    /**
     * States that come from told ones, in the order in which they come: by the fewest ACTS, of as few by the least
     * row of them. (Each is found first from the first state that leads to it, and by its least ACT there.)
     */
    private static final class Search {
        private static final int SLOTS = 16384;
        private static final int WAYS = 3 * BOOKS;

        final long[] states = new long[STATES];
        final int[] from = new int[STATES];
        final int[] acts = new int[STATES];
        final int[] depth = new int[STATES];
        final int[] can = new int[STATES];
        int size;
        private final int[] slots = new int[SLOTS];
        private final int[] slotBy = new int[STATES];
        private final int[] firstEdge = new int[STATES + 1];
        private final int[] edges = new int[STATES * WAYS];

        void clear() {
            for (int i = 0; i < size; i++) {
                slots[slotBy[i]] = 0;
            }
            size = 0;
        }

        void seed(long state) {
            place(state, NONE, NONE);
        }

        /** Goes on from all seeds, on all TABLES, or by OPEN and SHUT on only one: false if too many states come. */
        boolean spread(Tables tables, int only) {
            int spent = tables.spent();
            int edge = 0;
            for (int i = 0; i < size && i < STATES; i++) {
                firstEdge[i] = edge;
                for (int kind = 0; kind < KINDS; kind++) {
                    boolean asked = only == NONE || kind == only || kind == SHUT;
                    int books = asked ? tables.possible(states[i], spent, kind) : 0;
                    for (int book = 0; books >> book != 0 && book < BOOKS; book++) {
                        if ((books >> book & 1) != 0) {
                            int act = kind * KIND + book;
                            int to = place(tables.after(states[i], act), i, act);
                            if (to == NONE || edge >= edges.length) {
                                return false;
                            }
                            edges[edge] = to;
                            edge++;
                        }
                    }
                }
            }
            firstEdge[size] = edge;
            return true;
        }

        /** The number of a state, which is put behind the others if it is new; NONE: there is no place for it. */
        private int place(long state, int before, int act) {
            int slot = slotOf(state);
            if (slots[slot] > 0) {
                return slots[slot] - 1;
            }
            if (size >= STATES) {
                return NONE;
            }
            states[size] = state;
            from[size] = before;
            acts[size] = act;
            depth[size] = before == NONE ? 0 : depth[before] + 1;
            slotBy[size] = slot;
            size++;
            slots[slot] = size;
            return size - 1;
        }

        /** The slot that has the state's number (one more), or the free one where it belongs. */
        private int slotOf(long state) {
            int mixed = (int) (state ^ state >>> 21) * 0x9E3779B1;
            int slot = mixed >>> 18;
            for (int k = 0; k < SLOTS; k++) {
                if (slots[slot] == 0 || states[slots[slot] - 1] == state) {
                    return slot;
                }
                slot = slot + 1 & SLOTS - 1;
            }
            return slot;
        }

        int indexOf(long state) {
            return slots[slotOf(state)] - 1;
        }

        /** The first state in which all these BOOKS are open. */
        int firstWith(int books) {
            for (int i = 0; i < size; i++) {
                if ((books & ~anywhere(states[i])) == 0) {
                    return i;
                }
            }
            return NONE;
        }

        int union() {
            int union = 0;
            for (int i = 0; i < size; i++) {
                union |= anywhere(states[i]);
            }
            return union;
        }

        int farthest() {
            return size > 0 ? depth[size - 1] : 0;
        }

        /** For each state the BOOKS that are open in it or can be from it on; only behind a spread() that was whole. */
        void gather() {
            for (int i = 0; i < size; i++) {
                can[i] = anywhere(states[i]);
            }
            boolean more = true;
            for (int pass = 0; more && pass < STATES * BOOKS; pass++) {
                more = false;
                for (int i = size - 1; i >= 0; i--) {
                    int found = can[i];
                    for (int edge = firstEdge[i]; edge < firstEdge[i + 1]; edge++) {
                        found |= can[edges[edge]];
                    }
                    if (found != can[i]) {
                        can[i] = found;
                        more = true;
                    }
                }
            }
        }
    }

    /** What keep() keeps. */
    private static final class Kept {
        boolean used;
        long state;
        int hours;
        int logged;
        int readers;
        final int[] log = new int[LOG_ENTRIES];
        final int[] opened = new int[BOOKS];
        final int[] tables = new int[READERS];
        final int[] read = new int[READERS];
    }
}
