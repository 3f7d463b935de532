import java.io.IOException;
import java.io.InputStream;
import java.nio.charset.StandardCharsets;
import java.nio.file.Files;
import java.nio.file.Path;
import java.util.ArrayList;
import java.util.HashMap;
import java.util.List;
import java.util.Map;
import java.util.concurrent.Callable;
import java.util.concurrent.ExecutorService;
import java.util.concurrent.Executors;
import java.util.concurrent.Future;
import java.util.concurrent.TimeUnit;
import java.util.concurrent.TimeoutException;
import java.util.regex.Matcher;
import java.util.regex.Pattern;

/**
 * Shows of each test in Boundaries that it fails if its sentence does not hold: the class is broken at one place, so
 * that it keeps that sentence no more, and the test has to find a fault. No sentence is without such a place.
 */
public final class Broken {

    /** The place (spaces are compared as any spaces) and what stands there instead. */
    record Break(int promise, String words, String from, String to) {
        String name() {
            return "promise " + promise + ", \"" + words + "\": " + to;
        }

        boolean isOf(Boundaries.Sentence sentence) {
            return sentence.promise() == promise && sentence.words().startsWith(words);
        }
    }

    private static final List<Break> BREAKS = new ArrayList<>();
    private static final int SECONDS = 60;

    public static void main(String[] args) throws Exception {
        signs();
        books();
        rulesAndLimits();
        sheets();
        acts();
        manyActs();
        readers();
        hours();
        logs();
        needs();
        oneTable();
        allTables();
        kept();
        List<String> wrong = new ArrayList<>(withoutBreak());
        String source = Files.readString(Path.of("src/main/java/BesideAnother.java"), StandardCharsets.UTF_8);
        Map<String, byte[]> tests = testClasses();
        ExecutorService pool = Executors.newFixedThreadPool(Math.max(2, Runtime.getRuntime().availableProcessors()), Broken::daemon);
        List<Future<String>> found = new ArrayList<>();
        for (Break broken : BREAKS) {
            found.add(pool.submit(() -> unnoticed(broken, source, tests)));
        }
        for (Future<String> answer : found) {
            if (answer.get() != null) {
                wrong.add(answer.get());
            }
        }
        pool.shutdown();
        wrong.forEach(System.out::println);
        System.out.println(wrong.isEmpty() ? "all " + BREAKS.size() + " breaks are noticed" : wrong.size() + " are not as due");
        System.exit(wrong.isEmpty() ? 0 : 1);
    }

    private static Thread daemon(Runnable work) {
        Thread thread = new Thread(work);
        thread.setDaemon(true);
        return thread;
    }

    private static List<String> withoutBreak() {
        List<String> without = new ArrayList<>();
        for (Boundaries.Sentence sentence : Boundaries.sentences()) {
            if (BREAKS.stream().noneMatch(b -> b.isOf(sentence))) {
                without.add("no break of " + sentence.name());
            }
        }
        return without;
    }

    /** null if the test of the sentence notices the break. */
    private static String unnoticed(Break broken, String source, Map<String, byte[]> tests) throws Exception {
        if (Boundaries.sentences().stream().filter(broken::isOf).count() != 1) {
            return "not one sentence: " + broken.name();
        }
        String changed = changed(source, broken);
        if (changed == null) {
            return "not one place " + broken.from() + " for " + broken.name();
        }
        Map<String, byte[]> classes = Compiling.compiled("BesideAnother", changed);
        if (classes == null) {
            return "can't be compiled: " + broken.name();
        }
        classes.putAll(tests);
        Callable<Integer> run = () -> faults(broken, new Compiling.Classes(classes));
        ExecutorService alone = Executors.newSingleThreadExecutor(Broken::daemon);
        try {
            return alone.submit(run).get(SECONDS, TimeUnit.SECONDS) > 0 ? null : "not noticed: " + broken.name();
        } catch (TimeoutException e) {
            return null;
        } finally {
            alone.shutdownNow();
        }
    }

    private static String changed(String source, Break broken) {
        StringBuilder place = new StringBuilder();
        for (String piece : broken.from().trim().split("\\s+")) {
            place.append(place.length() > 0 ? "\\s+" : "").append(Pattern.quote(piece));
        }
        Matcher matcher = Pattern.compile(place.toString()).matcher(source);
        if (!matcher.find()) {
            return null;
        }
        String changed = source.substring(0, matcher.start()) + broken.to() + source.substring(matcher.end());
        return matcher.find() ? null : changed;
    }

    private static int faults(Break broken, ClassLoader classes) throws Exception {
        Class<?> boundaries = classes.loadClass("Boundaries");
        Object found = method(boundaries, "faultsOf", int.class, String.class).invoke(null, broken.promise(), broken.words());
        return (Integer) found;
    }

    private static java.lang.reflect.Method method(Class<?> type, String name, Class<?>... types) throws Exception {
        java.lang.reflect.Method method = type.getDeclaredMethod(name, types);
        method.setAccessible(true);
        return method;
    }

    private static Map<String, byte[]> testClasses() throws IOException {
        Map<String, byte[]> classes = new HashMap<>();
        for (String name : new String[] {"Boundaries", "Boundaries$Sentence", "Boundaries$Call", "Telling"}) {
            try (InputStream in = Broken.class.getResourceAsStream(name + ".class")) {
                classes.put(name, in.readAllBytes());
            }
        }
        return classes;
    }

    // ---------------------------------------------------------------- the breaks

    private static void on(int promise, String words, String from, String to) {
        BREAKS.add(new Break(promise, words, from, to));
    }

    private static void signs() {
        on(1, "No BOOKS", "private int readerCount;", "private int readerCount = 1;");
        on(1, "none at first", "private long now;", "private long now = 1L;");
        on(1, "at most 512 calls", "public int free() {", "public int free() { logged++; if (logged > 450) { return NONE; }");
        on(1, "at most 512 calls", "slots[slotBy[i]] = 0;", "slots[slotBy[i]] = i > 900 ? 1 : 0;");
        on(2, "Refused", "size + 4 > SIGNS", "size + 4 >= SIGNS");
        on(2, "Refused", "SIGNS = 80;", "SIGNS = 84;");
        on(2, "of v the highest", "int shift = 24; shift >= 0; shift -= 8", "int shift = 0; shift <= 24; shift += 8");
        on(3, "false if", "if (n < 0 || n > size) {", "if (n > size) {");
        on(3, "false if", "if (n < 0 || n > size) {", "if (n < 0 || n >= size) {");
        on(3, "false if", "if (n < 0 || n > size) {", "if (n < 0 || n > SIGNS) {");
        on(4, "a text of at most 60", "BOOK_SIGNS = 60;", "BOOK_SIGNS = 61;");
        on(4, "a text of at most 60", "BOOK_SIGNS = 60;", "BOOK_SIGNS = 59;");
        on(4, "the sign at p", "return good ? NONE : at;", "return good ? NONE : at + 1;");
        on(4, "its end", "return good ? NONE : at;", "return good ? NONE : Math.min(at, Math.max(0, end - 1));");
        on(4, "60, if it has more", "end = Math.min(size, most);", "end = size;");
        on(4, "60, if it has more", "&& at == end && size <= most;", "&& at == end;");
        on(4, "a NUMBER 1 .. 6", "signs[at] > '6'", "signs[at] > '7'");
        on(4, "a NUMBER 1 .. 6", "signs[at] > '6'", "signs[at] > '5'");
        on(4, "a NUMBER 1 .. 6", "signs[at] < '1'", "signs[at] < '0'");
        on(4, "a NUMBER 1 .. 6", "signs[at] < '1'", "signs[at] < '2'");
    }

    private static void books() {
        on(4, "BOOKS 0 ..", "signs[at] < 'a' + BOOKS", "signs[at] <= 'a' + BOOKS");
        on(4, "BOOKS 0 ..", "signs[at] < 'a' + BOOKS", "signs[at] < 'k'");
        on(4, "BOOKS 0 ..", "i == BOOKS && tables.count < BOOKS", "i == BOOKS && tables.count < BOOKS - 1");
        on(4, "-100", "i == BOOKS && tables.count < BOOKS", "i >= BOOKS && tables.count < BOOKS");
        on(4, "-100", "if (!more && !tables.has(i)) { text.clear();", "if (!more && !tables.has(i)) { int f = text.parse(60, true); if (f >= 0) { return -1 - f; }");
        on(4, "a number that is there", "if (table != NONE) { now = tables.settled(now, table);", "if (table == 0) { now = tables.settled(now, table);");
        on(4, "a number that is there", "if (table != NONE) { now = tables.settled(now, table);",
                "for (table = 0; table < TABLES; table++) { now = tables.settled(now, table);");
        on(4, "which a call that reads it", "size = 0; return good", "size = good ? 0 : size; return good");
        on(4, "which a call that reads it", "text.clear(); return NO_BOOK;", "return NO_BOOK;");
        on(4, "which a call that reads it", "if (fault != NONE) { return -1 - fault; } int number",
                "if (fault != NONE) { if (!more) { tables.books[i].tell(text); } return -1 - fault; } int number");
        on(4, "a NUMBER (1", "if (isDigit()) { number = number * 10", "while (isDigit()) { number = number * 10");
        on(4, "a NUMBER (1", "if (isDigit()) { number = number * 10", "if (number > 0 && isDigit()) { number = number * 10");
        on(4, "(at most 4", "NESTED = 4;", "NESTED = 5;");
        on(4, "(at most 4", "NESTED = 4;", "NESTED = 3;");
        on(4, "not one behind", "if (join != 0) { if (!sum(depth))",
                "for (; join != 0; join = takes('<') ? Expression.LESS : takes('=') ? Expression.SAME : 0) { if (!sum(depth))");
        on(4, "ahead of a thing", "while (at < end && signs[at] == '!')", "if (at < end && signs[at] == '!')");
        on(4, "+ - (from", "return left - right;", "return right - left;");
        on(4, "As ints", "return left != 0 || right != 0 ? 1 : 0;", "return left | right;");
        on(4, "As ints", "return left != 0 && right != 0 ? 1 : 0;", "return left & right;");
        on(4, "As ints", "stack[top - 1] == 0 ? 1 : 0;", "stack[top - 1] <= 0 ? 1 : 0;");
        on(4, "a letter", "item < COUNT ? set >> item - LETTER & 1", "item < COUNT ? (set == 0 ? 1 : set >> item - LETTER & 1)");
        on(4, "1 if it is open", "return it.condition().worth(on(now, table), it.readBy, table);",
                "return it.condition().worth(anywhere(now), it.readBy, table);");
        on(4, "n how many", "item == COUNT ? Integer.bitCount(set)", "item == COUNT ? Math.min(5, Integer.bitCount(set))");
    }

    private static void rulesAndLimits() {
        on(4, "r how many", "item == TOLD ? told : table;", "item == TOLD ? Math.min(told, 5) : table;");
        on(4, "r how many", "item == TOLD ? told : table;", "item == TOLD ? told & set : table;");
        on(4, "t the TABLE", "item == TOLD ? told : table;", "item == TOLD ? told : Math.min(table, 1);");
        on(5, "n how many", "Integer.bitCount(it.read), it.table);", "Math.min(11, Integer.bitCount(it.read)), it.table);");
        on(5, "n how many", "Integer.bitCount(it.read), it.table);", "Integer.bitCount(it.read), 2);");
        on(5, "n how many", "item == COUNT ? Integer.bitCount(set)", "item == COUNT ? Math.max(1, Math.min(5, Integer.bitCount(set)))");
        on(5, "at first none", "return top > 0 ? stack[0] : 0;", "return top > 0 ? stack[0] : table;");
        on(5, "(an empty", "rule.clear(); return 0;", "return 0;");
        on(5, "(an empty", "if (text.size == 0) { rule.clear();", "if (text.size < 0) { rule.clear();");
        on(5, "(one EXPRESSION", "RULE_SIGNS = 40;", "RULE_SIGNS = 41;");
        on(5, "(one EXPRESSION", "RULE_SIGNS = 40;", "RULE_SIGNS = 39;");
        on(5, "(one EXPRESSION", "text.parse(RULE_SIGNS, false)", "text.parse(RULE_SIGNS, true)");
        on(5, "as book()", "int fault = text.parse(RULE_SIGNS, false);", "int fault = text.parse(RULE_SIGNS, false); rule.copy(text.first);");
        on(5, "as book()", "int fault = text.parse(RULE_SIGNS, false);", "int fault = text.parse(BOOK_SIGNS, false);");
        on(5, "letters of BOOKS", "rule.worth(on(now, it.table),", "rule.worth(anywhere(now),");
        on(6, "a LIMIT 0", "v >= 0 && v <= MOST_LIMIT", "v > 0 && v <= MOST_LIMIT");
        on(6, "a LIMIT 0", "v >= 0 && v <= MOST_LIMIT", "v >= 0 && v <= MOST_LIMIT + 1");
        on(6, "a LIMIT 0", "v >= 0 && v <= MOST_LIMIT", "v >= -1 && v <= MOST_LIMIT");
        on(6, "a LIMIT 0", "int limit = MOST_LIMIT;", "int limit = MOST_LIMIT - 1;");
        on(6, "each with ROOM", "v >= 1 && v <= MOST_ROOM", "v >= 0 && v <= MOST_ROOM");
        on(6, "each with ROOM", "MOST_ROOM = 6;", "MOST_ROOM = 7;");
        on(6, "each with ROOM", "MOST_ROOM = 6;", "MOST_ROOM = 5;");
        on(6, "each with ROOM", "{3, 3, 3}", "{3, 3, 4}");
        on(6, "what is open stays", "tables.room[i] = v;", "tables.room[i] = v; if (Integer.bitCount(on(now, i)) > v) { now = with(now, i, 0); }");
        on(6, "Refused", "if (what == 1 && isTable(i)", "if (what != 0 && isTable(i)");
        on(6, "Refused", "if (what == 0 && tables.has(i)", "if (what == 0 && i >= 0 && i < BOOKS");
    }

    private static void sheets() {
        on(7, "of bytes", "kind == 1 ? (short) whole : whole", "kind == 1 ? whole & 0xffff : whole");
        on(7, "of bytes", "kind == 0 ? (byte) whole", "kind == 0 ? whole & 127");
        on(7, "put to 0", "Math.max(0, Math.min(MOST_LIMIT, held))", "Math.max(1, Math.min(MOST_LIMIT, held))");
        on(7, "put to 0", "Math.max(0, Math.min(MOST_LIMIT, held))", "Math.max(0, Math.min(MOST_LIMIT + 1, held))");
        on(7, "put to 0", "Math.max(0, Math.min(MOST_LIMIT, held))", "Math.min(MOST_LIMIT, Math.abs(held))");
        on(7, "of n entries", "entry(kind, f + i * step)", "entry(kind, (int) Math.min(f + (long) i * step, Integer.MAX_VALUE))");
        on(7, "those behind", ": MOST_LIMIT; tables.books[i].limit = limit;", ": tables.books[i].limit; tables.books[i].limit = limit;");
        on(7, "those behind", "int limit = i < told ?", "int limit = i <= told ?");
        on(7, "the sum of", "for (int i = 0; i < tables.count; i++) { int limit = i < told", "for (int i = 0; i < Math.max(n, tables.count); i++) { int limit = i < told");
        on(7, "-2", "if (kind < 3 && n < 0) {", "if (kind < 2 && n < 0) {");
        on(7, "-2", "if (kind < 3 && n < 0) {", "if (n < 0) {");
        on(7, "-3", "int told = kind == 3 ? 0 : n;", "int told = n;");
        on(7, "-3", "return kind == 3 ? MISSING : sum;", "return sum;");
        on(7, "NONE", "kind > 3 || n > BOOKS) {", "kind > 3 || kind < 3 && n > BOOKS) {");
        on(7, "NONE", "if (kind < 0 || kind > 3 ||", "if (kind > 3 ||");
        on(7, "NONE", "kind > 3 || n > BOOKS) {", "kind > 3 || n > BOOKS + 1) {");
        on(8, "the TABLE", "return tableOf(now, book);", "return Math.max(0, tableOf(now, book));");
        on(8, "once so many", "readBy >= wanted", "readBy > wanted");
        on(8, "once so many", "return wanted > 0 && readBy", "return readBy");
        on(8, "NoSuchElement", "throw new NoSuchElementException(\"nothing such is told of a book\");", "return 0;");
        on(8, "NoSuchElement", "if (!tables.has(book)) { throw", "if (book < 0 || book > tables.count) { throw");
    }

    private static void acts() {
        on(9, "NONE", "return isTable(table) ? on(now, table) : NONE;", "return table >= 0 && table <= TABLES ? on(now, table) : NONE;");
        on(10, "(without", "worth(on(now, table), it.readBy, table);", "worth(on(now, table) | 1 << book, it.readBy, table);");
        on(10, "(without", "worth(on(now, table), it.readBy, table);", "worth(on(now, table) & ~(1 << book), it.readBy, table);");
        on(10, "NoSuchElement", "if (!tables.has(book) || !isTable(table)) { throw", "if (!tables.has(book)) { throw");
        on(10, "NoSuchElement", "if (!tables.has(book) || !isTable(table)) { throw", "if (book < 0 || book >= BOOKS || !isTable(table)) { throw");
        on(11, "NONE: no such", "act >= KINDS * KIND ||", "act > KINDS * KIND ||");
        on(11, "NONE: no such", "!has(act % KIND)", "act % KIND >= BOOKS");
        on(11, "refused with why", "if (kind < SHUT && (spent >> book & 1) != 0) {",
                "if (kind < SHUT && (spent >> book & 1) != 0 && Integer.bitCount(on(state, table)) < room[table]) {");
        on(11, "refused with why", "if (Integer.bitCount(on(state, table)) >= room[table]) {",
                "if (Integer.bitCount(on(state, table)) >= room[table] && (mayBy(table, on(state, table)) >> book & 1) != 0) {");
        on(11, "-2", "at == NONE || at == table", "at == NONE");
        on(11, "-2", "kind < SHUT ? at != NONE :", "kind < SHUT ? at == table :");
        on(11, "-2", "return at == NONE ? OPEN_OR_NOT : 0;", "return 0;");
        on(11, "-5", "? MAY_NOT : 0", "? NO_ROOM : 0");
        on(11, "if its CONDITION", "worth(set, books[i].readBy, table) != 0", "worth(set, books[i].readBy, table) > 0");
        on(11, "each BOOK on one", "if (at != NONE) { then", "if (at != NONE && kind == SHUT) { then");
        on(11, "-3", "books[i].opened >= books[i].limit", "books[i].opened > books[i].limit");
        on(11, "-3", "books[i].opened >= books[i].limit", "books[i].opened == books[i].limit");
        on(11, "-3", "if (kind < SHUT && (spent >> book & 1) != 0) {", "if ((spent >> book & 1) != 0) {");
        on(11, "-4", "if (Integer.bitCount(on(state, table)) >= room[table]) {", "if (Integer.bitCount(on(state, table)) == room[table]) {");
        on(11, "-4", "if (Integer.bitCount(on(state, table)) >= room[table]) {", "if (Integer.bitCount(on(state, table)) > room[table]) {");
        on(11, "-4", "if (Integer.bitCount(on(state, table)) >= room[table]) {", "if (kind < SHUT && Integer.bitCount(on(state, table)) >= room[table]) {");
        on(11, "OPENED is 1 more", "if (act / KIND < SHUT) { tables", "if (act / KIND < SHUT && tableOf(tables.after(now, act), act % KIND) != NONE) { tables");
        on(11, "OPENED stays", "if (act / KIND < SHUT) { tables", "if (act / KIND != SHUT) { tables");
        on(11, "if it MAY be there", "return (mayBy(table, on(state, table)) >> book", "return (mayBy(table, on(state, table) | 1 << book) >> book");
        on(11, "if that has ROOM", "return (mayBy(table, on(state, table)) >> book",
                "return (mayBy(table, kind < SHUT ? on(state, table) : on(state, table) | 1 << book) >> book");
        on(11, "if that has ROOM", "then = settled(with(then, table, on(then, table) | bit), table);", "then = with(then, table, on(then, table) | bit);");
        on(11, "BOOKS (bits) that SETTLED", "shuts ? anywhere(now) & ~bit", "shuts ? anywhere(now)");
        on(11, "BOOKS (bits) that SETTLED", "then = settled(with(then, at, on(then, at) & ~bit), at);", "then = with(then, at, on(then, at) & ~bit);");
        on(11, "shut at once", "still != set && round < BOOKS", "still != set && round < 3");
        on(11, "shut at once", "set = still;", "set &= ~Integer.lowestOneBit(set & ~still);");
    }

    private static void manyActs() {
        on(12, "0: it would not", "public int why(int act) { return tables.refusal(now, tables.spent(), act);", "public int why(int act) { return Math.min(0, act(act));");
        on(12, "0: it would not", "public int why(int act) { return tables.refusal(now, tables.spent(), act);",
                "public int why(int act) { return tables.refusal(now, 0, act);");
        on(13, "the first 8", "ACTS_THAT_CAN = 8;", "ACTS_THAT_CAN = 9;");
        on(13, "the first 8", "ACTS_THAT_CAN = 8;", "ACTS_THAT_CAN = 7;");
        on(13, "ACTS of OPEN", "kind == SHUT ? 0 : tables.possible(now, spent, kind);", "tables.possible(now, spent, kind);");
        on(14, "NONE", "if (tables.beyond(keep)) {", "if (keep < 0) {");
        on(14, "NONE", "return bits >> count != 0;", "return bits >>> count != 0 && bits > 0;");
        on(14, "all BOOKS", "on(now, table) & keep);", "on(now, table) & (keep == 0 ? -1 : keep));");
        on(14, "then TABLES", "now = tables.settled(now, table); } return anywhere(now);", "} return anywhere(now);");
        on(14, "then TABLES", "now = tables.settled(now, table); } return anywhere(now);",
                "now = keep == tables.all() ? now : tables.settled(now, table); } return anywhere(now);");
        on(15, "n ACTS", "if (n < 0 || n > 8) {", "if (n <= 0 || n > 8) {");
        on(15, "n ACTS", "if (n < 0 || n > 8) {", "if (n < 0 || n > 7) {");
        on(15, "n ACTS", "k < n && first == NOT_SO", "k <= n && k < 8 && first == NOT_SO");
        on(15, "8 bits each", "b >>> 8 * (k - 4)) & 255", "b >>> 8 * (k - 4)) & 127");
        on(15, "8 bits each", "(k < 4 ? a >>> 8 * k", "(k < 4 ? a >>> 8 * (3 - k)");
        on(15, "-2: all", "first = k;", "first = k + 1;");
        on(15, "-2: all", "int first = NOT_SO;", "int first = n == 7 ? NONE : NOT_SO;");
        on(15, "(OPENED counts", "tally[act % KIND]++;", "tally[act % KIND] += 0;");
        on(15, "(OPENED counts", "tally[i] = tables.books[i].opened;", "tally[i] = 0;");
        on(15, "Nothing changes", "tell(on(state, table)); } return first;", "tell(on(state, table)); } System.arraycopy(tally, 0, row, 3, 9); tables.books[0].opened = tally[0]; return first;");
        on(15, "NONE", "if (n < 0 || n > 8) {", "if (n < 0 || n > 9) {");
        on(15, "NONE", "if (n < 0 || n > 8) {", "if (n > 8) {");
    }

    private static void readers() {
        on(16, "Refused", "|| tables.beyond(list) || readerCount", "|| readerCount");
        on(16, "Refused", "|| readerCount >= READERS) {", "|| readerCount >= READERS - 1) {");
        on(16, "Refused", "if (!isTable(table) || tables.beyond(list)", "if (table < 0 || tables.beyond(list)");
        on(17, "Refused", "if (!isReader(reader) || !isTable(table)) {", "if (!isReader(reader)) {");
        on(17, "Refused", "if (!isReader(reader) || !isTable(table)) {", "if (reader < 0 || reader >= READERS || !isTable(table)) {");
        on(18, "(also once more", "if ((reader.read >> book & 1) == 0) {", "if ((reader.read >> book & 1) != 0) { return; } else {");
        on(18, "(also once more", "if ((reader.read >> book & 1) == 0) {", "{");
        on(18, "(also once more", "now = tables.settled(now, reader.table);", "now = tables.settled(tables.settled(now, 0), 1);");
        on(18, "-2", "return NOT_SO; } finishBook", "return NONE; } finishBook");
        on(18, "-2", "(on(now, readers[reader].table) >> book & 1) == 0", "(anywhere(now) >> book & 1) == 0");
        on(18, "-2", "if (!isReader(reader) || !tables.has(book)) {", "if (!isReader(reader) || book < 0) {");
        on(18, "how many", "tables.books[book].readBy++;", "tables.books[book].readBy = Math.min(5, tables.books[book].readBy + 1);");
        on(19, "what is left", "return list & ~read;", "return list ^ read;");
        on(19, "NoSuchElement", "throw new NoSuchElementException(\"nothing such is told of a reader\");", "return 0;");
        on(19, "NoSuchElement", "return reader >= 0 && reader < readerCount;", "return reader >= 0 && reader < READERS;");
        on(22, "the ROW", "return readerCount; } public int ring()", "return Math.max(1, readerCount); } public int ring()");
        on(22, "the ROW", "lineUp(); rowSize = 0;", "lineUp(); rowSize = readerCount == 0 ? rowSize : 0;");
        on(22, "the greater", "worths[line[at - 1]] < worths[i]", "worths[line[at - 1]] <= worths[i]");
        on(22, "the greater", "worths[line[at - 1]] < worths[i]", "worths[line[at - 1]] > worths[i]");
        on(23, "the shortest", "length < best)", "length > best)");
        on(23, "another one", "if (table != readers[i].table && (", "if (k != i && (");
        on(23, "0: none", "if (best == 0) { return 0;", "if (best == 0) { rowSize = 0; return 0;");
        on(23, "of as short", "length < best)", "length <= best)");
        on(23, "of as short", "who = lowest(links[who] & near[left - 1]);", "who = 31 - Integer.numberOfLeadingZeros(links[who] & near[left - 1]);");
        on(23, "from the least", "(readers[i].left() & on(now, table)) != 0", "(readers[k].left() & on(now, readers[i].table)) != 0");
    }

    private static void hours() {
        on(20, "n HOURS", "MOST_HOURS = 50;", "MOST_HOURS = 49;");
        on(20, "n HOURS", "if (n < 0 || n > MOST_HOURS) {", "if (n <= 0 || n > MOST_HOURS) {");
        on(20, "n HOURS", "while (done < n && !idle) {", "while (done <= n && !idle) {");
        on(20, "till nobody", "while (done < n && !idle) {", "while (done < n) {");
        on(20, "till nobody", "done++; hourCount++;", "done += idle ? 0 : 1; hourCount++;");
        on(20, "(0 else", "boolean idle = false;", "boolean idle = n == 0;");
        on(20, "(0 else", "tell(idle ? 1 : 0);", "tell(done < n ? 1 : 0);");
        on(20, "READERS (bits)", "if (readers[i].left() == 0) {", "if (readers[i].list != 0 && readers[i].left() == 0) {");
        on(20, "READERS (bits)", "for (int i = 0; i < readerCount; i++) { if (readers[i].left()", "for (int i = 0; i < READERS - 1; i++) { if (readers[i].left()");
        on(20, "NONE", "if (n < 0 || n > MOST_HOURS) {", "if (n < 0 || n > MOST_HOURS + 1) {");
        on(20, "NONE", "if (n < 0 || n > MOST_HOURS) {", "if (n > MOST_HOURS) {");
        on(20, "HOURS are", "done++; hourCount++;", "done++; hourCount += idle ? 0 : 1;");
        on(20, "in an order", "if (turn(line[k])) {", "lineUp(); if (turn(line[k])) {");
        on(20, "Each READS", "int book = lowest(left & on(now, table));", "int book = lowest(left & anywhere(now));");
        on(20, "Each READS", "int book = lowest(left & on(now, table));", "int book = lowest(reader.list & on(now, table));");
        on(20, "Each READS", "now = tables.settled(now, reader.table);", "now = now + 0L;");
        on(20, "else OPENS on its", "book = lowest(left & could);", "book = lowest(left & ~anywhere(now));");
        on(20, "else OPENS on its", "book = lowest(left & could);", "book = lowest(left == 0 ? 0 : could);");
        on(20, "else OPENS the first", "book = leading(could, table, reader);", "book = left == 0 ? NONE : lowest(could);");
        on(20, "else OPENS the first", "book = leading(could, table, reader);", "book = NONE;");
        on(20, "else SHUTS", "book = leading(on(now, table), SHUT, reader);", "book = left == 0 ? NONE : lowest(on(now, table));");
        on(20, "else SHUTS", "book = leading(on(now, table), SHUT, reader);", "book = NONE;");
        on(20, "else SHUTS", "then = settled(with(then, at, on(then, at) & ~bit), at);", "then = with(then, at, on(then, at) & ~bit);");
        on(20, "else does nothing", "note(who, 0, 0); return false;", "return false;");
        on(20, "else does nothing", "note(who, 0, 0); return false;", "note(who, 0, 0); return true;");
    }

    private static void logs() {
        on(21, "the last 60", "LOG_ENTRIES = 60;", "LOG_ENTRIES = 61;");
        on(21, "the last 60", "LOG_ENTRIES = 60;", "LOG_ENTRIES = 59;");
        on(21, "the last 60", "return Math.min(logged, LOG_ENTRIES);", "return Math.min(logged, LOG_ENTRIES - 1);");
        on(21, "from the last one", "log[(logged - 1 - k) % LOG_ENTRIES]", "log[(logged - logKept() + k) % LOG_ENTRIES]");
        on(21, "-2", "if (k < 0) { return NONE;", "if (k < 0) { return NOT_SO;");
        on(21, "-2", "return k < logKept() ?", "return k <= logKept() ?");
        on(21, "and the BOOK", "note(who, 0, 0);", "note(who, 0, lowest(reader.list));");
        on(21, "and the BOOK", "= 100 * who + 20 * what + book;", "= 100 * who + 20 * what + book % 11;");
    }

    private static void needs() {
        on(24, "all others", "look(book, table); return survey.inAll;", "look(book, table); return survey.many == 0 ? 0 : survey.inAll;");
        on(24, "all others", "look(book, table); return survey.inAll;", "look(book, table); return survey.many == 0 ? tables.all() : survey.inAll;");
        on(24, "that are in each", "inAll &= set;", "inAll = set;");
        on(24, "by sets of others", "int others = tables.all() & ~(1 << book); survey", "int others = SETS - 1 & ~(1 << book); survey");
        on(24, "by sets of others", "int others = tables.all() & ~(1 << book); survey", "int others = tables.all(); survey");
        on(24, "as many as ROOM", "Integer.bitCount(set) < tables.room[table]", "Integer.bitCount(set) <= tables.room[table]");
        on(24, "as many as ROOM", "Integer.bitCount(set) < tables.room[table]", "Integer.bitCount(set) < tables.room[table] - 1");
        on(24, "NONE", "public int needs(int book, int table) { if (!tables.has(book) || !isTable(table)) { return NONE;",
                "public int needs(int book, int table) { if (!tables.has(book) || !isTable(table)) { return 0;");
        on(24, "NONE", "public int needs(int book, int table) { if (!tables.has(book) ||", "public int needs(int book, int table) { if (book < 0 || book >= BOOKS ||");
        on(25, "Other BOOKS", "& ~(1 << book) & ~survey.inAny;", "& ~survey.inAny;");
        on(25, "Other BOOKS", "inAny |= set;", "inAny = set;");
        on(25, "NONE", "public int bars(int book, int table) { if (!tables.has(book) || !isTable(table)) { return NONE;",
                "public int bars(int book, int table) { if (!tables.has(book) || !isTable(table)) { return 0;");
        on(25, "NONE", "public int bars(int book, int table) { if (!tables.has(book) || !isTable(table)) {",
                "public int bars(int book, int table) { if (!tables.has(book) || table < 0 || table > TABLES) {");
        on(26, "The fewest", "fewest = BOOKS;", "fewest = 4;");
        on(26, "The fewest", "Integer.bitCount(set) < tables.room[table]", "Integer.bitCount(set) <= tables.room[table]");
        on(26, "of as few", "if (size < fewest) {", "if (size <= fewest) {");
        on(26, "of as few", "if (size < fewest) {", "if (many == 0) {");
        on(26, "-2", "if (survey.many == 0) { return NOT_SO;", "if (survey.many == 0) { rowSize = 0; return NOT_SO;");
        on(26, "-2", "if (survey.many == 0) { return NOT_SO;", "if (survey.many == 0) { return NONE;");
        on(26, "-2", "public int least(int book, int table) { if (!tables.has(book) || !isTable(table)) { return NONE;",
                "public int least(int book, int table) { if (!tables.has(book) || !isTable(table)) { return NOT_SO;");
        on(27, "the shortest", "length < best)", "length > best)");
        on(27, "the shortest", "length <= many; length++", "length < many; length++");
        on(27, "(one alone", "survey.many == 0 ? 1 << book : survey.inAll;", "survey.inAll;");
        on(27, "0: none", "if (best == 0) { return 0;", "if (best == 0) { rowSize = 0; return 0;");
        on(27, "of as short", "length < best)", "length <= best)");
        on(27, "of as short", "who = lowest(links[who] & near[left - 1]);", "who = 31 - Integer.numberOfLeadingZeros(links[who] & near[left - 1]);");
        on(27, "NONE", "public int knot(int table) { if (!isTable(table)) { return NONE;", "public int knot(int table) { if (!isTable(table)) { return 0;");
        on(27, "NONE", "public int knot(int table) { if (!isTable(table)) {", "public int knot(int table) { if (table < 0) {");
    }

    private static void oneTable() {
        on(28, "(as many as", "Integer.bitCount(set) <= tables.room[table] && (set", "Integer.bitCount(set) < tables.room[table] && (set");
        on(28, "(each MAY", "(set & ~tables.mayBy(table, set)) == 0", "(set == 0 || (set & tables.mayBy(table, set)) != 0)");
        on(28, "(each MAY", "(set & ~tables.mayBy(table, set)) == 0", "(set & ~tables.mayBy(table, 0)) == 0");
        on(28, "(of as many", "if (Integer.bitCount(set) > Integer.bitCount(best)) { best = set;", "if (Integer.bitCount(set) >= Integer.bitCount(best)) { best = set;");
        on(28, "NONE", "public int hold(int table) { if (!isTable(table)) { return NONE;", "public int hold(int table) { if (!isTable(table)) { return 0;");
        on(28, "NONE", "public int hold(int table) { if (!isTable(table)) {", "public int hold(int table) { if (table < 0) {");
        on(29, "Sets of BOOKS", "return search.size;", "return search.size - 1;");
        on(29, "as if nothing", "search.seed(0L);", "search.seed(now);");
        on(29, "as if nothing", "only == NONE || kind == only || kind == SHUT;", "true;");
        on(29, "LIMITS do not", "int spent = tables.spent(); int edge = 0;", "int spent = 0; int edge = 0;");
        on(29, "NONE", "public int comes(int table) { if (!isTable(table)) { return NONE;", "public int comes(int table) { if (!isTable(table)) { return NOT_SO;");
        on(29, "NONE", "public int comes(int table) { if (!isTable(table)) {", "public int comes(int table) { if (table < 0) {");
        on(30, "The fewest ACTS", "if ((books & ~anywhere(states[i])) == 0) {", "if (books == anywhere(states[i])) {");
        on(30, "ACTS, the first 10", "ACTS_TOLD = 10;", "ACTS_TOLD = 9;");
        on(30, "ACTS, the first 10", "ACTS_TOLD = 10;", "ACTS_TOLD = 11;");
        on(30, "of as few", "for (int book = 0; books >> book != 0 && book < BOOKS; book++) {", "for (int book = BOOKS - 1; book >= 0; book--) {");
        on(30, "-2", "public int together(int table, int books) { if (!isTable(table) || tables.beyond(books)) {",
                "public int together(int table, int books) { if (!isTable(table)) {");
        on(30, "-2", "if (state == NONE) { return NOT_SO;", "if (state == NONE) { rowSize = 0; return NOT_SO;");
        on(31, "of equal ones", "Integer.bitCount(others) > Integer.bitCount(freed)", "Integer.bitCount(others) >= Integer.bitCount(freed)");
        on(31, "(whether it MAY", "tables.possible(with(0L, table, 1 << book), spent, table)", "tables.possible(tables.settled(with(0L, table, 1 << book), table), spent, table)");
        on(31, "(whether it MAY", "tables.possible(with(0L, table, 1 << book), spent, table)", "tables.possible(with(0L, table, 1 << book), 0, table)");
        on(31, "as if nothing", "tables.possible(with(0L, table, 1 << book), spent, table)", "tables.possible(with(now, table, on(now, table) | 1 << book), spent, table)");
        on(31, "as if nothing", "if (Integer.bitCount(set) >= room[table]) { return 0;", "if (Integer.bitCount(set) > room[table]) { return 0;");
        on(31, "-2", "if (tables.count == 0) { return NOT_SO;", "if (tables.count == 0) { return NONE;");
        on(31, "-2", "public int frees(int table) { if (!isTable(table)) {", "public int frees(int table) { if (table < 0) {");
        on(32, "The fewest BOOKS", "many < Integer.bitCount(best)", "many > Integer.bitCount(best)");
        on(32, "The fewest BOOKS", "(best == NONE || many < Integer.bitCount(best))", "best == NONE");
        on(32, "(whether they", "if (many <= room && (best", "if (many <= room && (set & ~tables.mayBy(table, 0)) == 0 && (best");
        on(32, "(whether they", "int state = search.indexOf(tables.settled(with(0L, table, set), table));",
                "int state = search.indexOf(tables.settled(with(0L, table, set), table)); search.can[Math.max(0, state)] |= set;");
        on(32, "no more than", "int room = tables.room[table];", "int room = tables.room[table] + 1;");
        on(32, "no more than", "int room = tables.room[table];", "int room = tables.room[table] - 1;");
        on(32, "so that each", "(books & ~search.can[state]) == 0", "(books & ~on(search.states[state], table)) == 0");
        on(32, "of as few", "many < Integer.bitCount(best)", "many <= Integer.bitCount(best)");
        on(32, "-2", "if (best == NONE) { return NOT_SO;", "if (best == NONE) { rowSize = 0; return NOT_SO;");
        on(32, "-2", "public int keeps(int table, int books) { if (!isTable(table) || tables.beyond(books)) {", "public int keeps(int table, int books) { if (!isTable(table)) {");
        on(33, "1 (the ROW", "rowSize = 0; if (missing == 0) { return 1; }", "if (missing == 0) { return 1; } rowSize = 0;");
        on(33, "1 (the ROW", "left |= readers[i].left();", "left |= readers[i].list;");
        on(33, "NONE", "who >> readerCount != 0", "who >> READERS != 0");
        on(33, "NONE", "if (!isTable(table) || who >> readerCount != 0) {", "if (table < 0 || who >> readerCount != 0) {");
    }

    private static void allTables() {
        on(34, "States (what", "return search.size;", "return search.size - 1;");
        on(34, "States (what", "place(state, NONE, NONE);", "place(0L, NONE, NONE);");
        on(34, "A search", "STATES = 5000;", "STATES = 5001;");
        on(34, "A search", "STATES = 5000;", "STATES = 4999;");
        on(34, "In questions", "books[i].opened >= books[i].limit", "books[i].opened + 1 >= books[i].limit");
        on(34, "In questions", "int spent = tables.spent(); int edge = 0;", "int spent = 0; int edge = 0;");
        on(35, "ACTS, the first 10", "ACTS_TOLD = 10;", "ACTS_TOLD = 9;");
        on(35, "ACTS, the first 10", "ACTS_TOLD = 10;", "ACTS_TOLD = 11;");
        on(35, "of as few", "for (int kind = 0; kind < KINDS; kind++) { boolean asked", "for (int kind = KINDS - 1; kind >= 0; kind--) { boolean asked");
        on(35, "0: it is", "return searchFrom(now) ? tellWay(search.firstWith(1 << book)) : TOO_MANY;", "searchFrom(now); return tellWay(search.firstWith(1 << book));");
        on(35, "0: it is", "public int soonest(int book) { if (!tables.has(book)) {", "public int soonest(int book) { if (book < 0 || book >= BOOKS) {");
        on(35, "0: it is", "if (state == NONE) { return NOT_SO;", "if (state == NONE) { rowSize = 0; return NOT_SO;");
        on(36, "(just they)", "return tellWay(search.indexOf(with(with(with(0L, 0, a), 1, b), 2, c)));", "return tellWay(search.firstWith(a | b | c));");
        on(36, "likewise", "return TOO_MANY; } return tellWay(search.indexOf", "return NOT_SO; } return tellWay(search.indexOf");
        on(36, "likewise", "if (!searchFrom(now)) { return TOO_MANY; } return tellWay", "searchFrom(now); return tellWay");
        on(36, "NONE", "(a & b | a & c | b & c) != 0", "(a & b | b & c) != 0");
        on(36, "NONE", "|| tables.beyond(c) ||", "||");
        on(37, "BOOKS (bits)", "int there = anywhere(now); if (there == 0)", "int there = tables.all(); if (there == 0)");
        on(37, "BOOKS (bits)", "int spent = tables.spent(); int edge = 0;", "int spent = 0; int edge = 0;");
        on(37, "(nor stay so)", "then = settled(with(then, table, on(then, table) | bit), table);", "then = with(then, table, on(then, table) | bit);");
        on(37, "-3", "+ book))) { return TOO_MANY;", "+ book))) { continue;");
        on(37, "-3", "if (!searchFrom(0L)) { return TOO_MANY;", "if (!searchFrom(0L)) { return 0;");
        on(37, "-3", "if (there == 0) { return 0;", "if (there == 0 && searchFrom(now)) { return 0;");
        on(38, "1 (the ROW", "int all = search.union(); rowSize = 0;", "int all = search.union();");
        on(38, "1 (the ROW", "int all = search.union(); rowSize = 0;", "int all = tables.all(); rowSize = 0;");
        on(38, "the fewest ACTS", "for (int i = 0; i < search.size; i++) { if (search.can[i] != all)", "for (int i = search.size - 1; i >= 0; i--) { if (search.can[i] != all)");
        on(38, "the fewest ACTS", "tell(search.depth[i]);", "tell(1);");
        on(38, "of states with", "for (int i = 0; i < search.size; i++) { if (search.can[i] != all)", "for (int i = search.size - 1; i >= 0; i--) { if (search.can[i] != all)");
        on(38, "of states with", "for (int kind = 0; kind < KINDS; kind++) { boolean asked", "for (int kind = KINDS - 1; kind >= 0; kind--) { boolean asked");
        on(38, "-3", "return TOO_MANY; } search.gather();", "return 1; } search.gather();");
    }

    private static void kept() {
        on(39, "are kept under", "KEPT = 3;", "KEPT = 4;");
        on(39, "are kept under", "KEPT = 3;", "KEPT = 2;");
        on(39, "are kept under", "Kept into = kept[i];", "Kept into = kept[i % 2]; kept[i].used = true;");
        on(39, "What is open where", "System.arraycopy(log, 0, into.log, 0, LOG_ENTRIES);", "");
        on(39, "What is open where", "hourCount = was.hours;", "");
        on(39, "What is open where", "logged = was.logged;", "");
        on(39, "What is open where", "tables.books[k].opened = was.opened[k];", "");
        on(39, "What is open where", ": was.tables[k];", ": readers[k].table;");
        on(39, "What is open where", "since ? 0 : was.read[k];", "since ? 0 : readers[k].read;");
        on(39, "What is open where", "now = was.state;", "");
        on(39, "What is open where", "tables.books[k].readBy = 0;", "");
        on(40, "Refused", "|| !kept[i].used) {", ") {");
        on(40, "BOOKS and READERS", "since ? readers[k].told :", "since ? readers[k].table :");
        on(40, "BOOKS and READERS", "since ? 0 : was.read[k];", "since ? readers[k].read : was.read[k];");
        on(40, "BOOKS and READERS", "boolean since = k >= was.readers;", "boolean since = false;");
        on(40, "BOOKS and READERS", "for (int k = 0; k < BOOKS; k++) { tables.books[k].opened = was", "for (int k = 0; k < BOOKS && was.opened[k] > 0; k++) { tables.books[k].opened = was");
        on(40, "nothing SETTLES", "tables.forget(); return true;", "tables.forget(); now = tables.settled(now, 0); return true;");
        on(40, "nothing SETTLES", "tables.forget(); return true;", "tables.forget(); now = tables.settled(now, 2); return true;");
        on(41, "NONE", "default: return NONE; } } public int row", "default: return 0; } } public int row");
        on(41, "4: entries", "return logKept(); case 5", "return logged; case 5");
        on(41, "3: BOOKS", "return anywhere(now); case 4", "return on(now, 0) | on(now, 1); case 4");
        on(41, "5: numbers", "return rowSize; case 6", "return Math.min(10, rowSize); case 6");
        on(41, "5: numbers", "case 6: return text.size;", "case 6: return text.size / 4 * 4;");
        on(42, "NoSuchElement", "if (i < 0 || i >= rowSize) {", "if (i < 0 || i > rowSize) {");
        on(42, "NoSuchElement", "if (i < 0 || i >= rowSize) {", "if (i < 0 || i >= row.length) {");
    }
}
