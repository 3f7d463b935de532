import java.io.IOException;
import java.nio.charset.StandardCharsets;
import java.nio.file.Files;
import java.nio.file.Path;
import java.util.ArrayList;
import java.util.IdentityHashMap;
import java.util.List;
import java.util.Map;
import java.util.NoSuchElementException;

/**
 * One test for each sentence of ../shared/DOC.md that names a boundary case: too small, too large, empty, full, a
 * wrap-around, a refused call. Each names its promise and the document's own words (looked up in the document), with
 * answers worked out by hand. Broken.java shows of each that it fails if the sentence does not hold.
 */
public final class Boundaries {

    /** A sentence that names a boundary case, by the promise to which it belongs, and its test. */
    record Sentence(int promise, String words, Runnable test) {
        String name() {
            return "promise " + promise + ", \"" + words + "\"";
        }
    }

    private interface Call {
        long answer();
    }

    private static final int PROMISES = 42;
    private static final int NONE = -1;
    private static final int OPEN1 = 20;
    private static final int OPEN2 = 40;
    private static final int SHUT = 60;
    private static final int HAND0 = 80;
    private static final int HAND1 = 100;
    private static final int HAND2 = 120;
    private static final int MIN = Integer.MIN_VALUE;
    private static final int MAX = Integer.MAX_VALUE;

    private static final List<Sentence> SENTENCES = new ArrayList<>();
    private static final List<String> FAULTS = new ArrayList<>();
    private static final Map<BesideAnother, Integer> ASKED = new IdentityHashMap<>();

    public static void main(String[] args) throws IOException {
        int failed = 0;
        for (Sentence sentence : sentences()) {
            List<String> faults = faults(sentence);
            faults.forEach(fault -> System.out.println(sentence.name() + ": " + fault));
            failed += faults.isEmpty() ? 0 : 1;
        }
        List<String> gaps = gaps(Files.readString(Path.of("../shared/DOC.md"), StandardCharsets.UTF_8));
        gaps.forEach(System.out::println);
        System.out.println(failed + gaps.size() == 0 ? "all " + SENTENCES.size() + " sentences hold" : failed + " sentences do not hold");
        if (failed + gaps.size() != 0) {
            System.exit(1);
        }
    }

    static List<Sentence> sentences() {
        if (SENTENCES.isEmpty()) {
            books();
            acts();
            readers();
            whatOneBookNeeds();
            oneTable();
            allTables();
            kept();
        }
        return SENTENCES;
    }

    /** What is not as the sentence says. */
    static List<String> faults(Sentence sentence) {
        FAULTS.clear();
        ASKED.clear();
        try {
            sentence.test().run();
        } catch (RuntimeException e) {
            FAULTS.add("throws " + e);
        }
        return new ArrayList<>(FAULTS);
    }

    /** How much is not as the sentence says whose words begin so. */
    static int faultsOf(int promise, String words) {
        int many = 0;
        for (Sentence sentence : sentences()) {
            many += sentence.promise() == promise && sentence.words().startsWith(words) ? faults(sentence).size() : 0;
        }
        return many;
    }

    /** Words that the document does not say of their promise, and promises without a sentence. */
    private static List<String> gaps(String document) {
        List<String> gaps = new ArrayList<>();
        String plain = document.replaceAll("\\s+", " ");
        String terms = plain.substring(0, plain.indexOf("## Promise 1:"));
        for (int i = 1; i <= PROMISES; i++) {
            int begin = plain.indexOf("## Promise " + i + ":");
            int end = plain.indexOf(" ## ", begin);
            String section = plain.substring(begin, end);
            int told = 0;
            for (Sentence sentence : SENTENCES) {
                if (sentence.promise() == i) {
                    told++;
                    if (!section.contains(sentence.words()) && !terms.contains(sentence.words())) {
                        gaps.add("not the document's words: " + sentence.name());
                    }
                }
            }
            if (told == 0) {
                gaps.add("no sentence of promise " + i);
            }
        }
        return gaps;
    }

    // ---------------------------------------------------------------- what the tests are told with

    private static void on(int promise, String words, Runnable test) {
        SENTENCES.add(new Sentence(promise, words, test));
    }

    private static void due(String call, long got, long want) {
        if (got != want) {
            FAULTS.add(call + " answered " + got + ", due is " + want);
        }
    }

    private static void due(String call, boolean got, boolean want) {
        due(call, got ? 1 : 0, want ? 1 : 0);
    }

    /** The answer, and the whole ROW behind it. */
    private static void row(BesideAnother x, String call, long got, long want, int... row) {
        due(call, got, want);
        due("count(5) behind " + call, x.count(5), row.length);
        for (int i = 0; i < row.length && i < x.count(5); i++) {
            due("row(" + i + ") behind " + call, x.row(i), row[i]);
        }
    }

    private static void throwing(String call, Call asked) {
        try {
            FAULTS.add(call + " answered " + asked.answer() + ", due is NoSuchElementException");
        } catch (NoSuchElementException e) {
            // as is due
        }
    }

    /** A call that answers so, and changes nothing. */
    private static void still(BesideAnother x, String call, long want, Call asked) {
        String before = told(x);
        due(call, asked.answer(), want);
        if (!told(x).equals(before)) {
            FAULTS.add(call + " changed " + before + " to " + told(x));
        }
    }

    /** All that can be asked without changing anything (but what THE RULE is, and what is kept). */
    private static String told(BesideAnother x) {
        int calls = 16 + x.count(5) + 8 * x.count(0) + 4 * x.count(1) + x.count(4);
        if (ASKED.merge(x, calls, Integer::sum) > 440) {
            FAULTS.add("an object is asked too often: it is promised for 512 calls");
        }
        StringBuilder out = new StringBuilder();
        for (int what = 0; what < 7; what++) {
            out.append(x.count(what)).append(what < 6 ? " " : " row");
        }
        for (int i = 0; i < x.count(5); i++) {
            out.append(' ').append(x.row(i));
        }
        for (int table = 0; table < 3; table++) {
            int room = x.set(1, table, 6);
            x.set(1, table, room);
            out.append(" table ").append(x.open(table)).append(' ').append(room);
        }
        for (int book = 0; book < x.count(0); book++) {
            out.append(" book");
            for (int what = 0; what < 5; what++) {
                out.append(' ').append(x.about(book, what));
            }
            for (int table = 0; table < 3; table++) {
                out.append(' ').append(x.value(book, table));
            }
        }
        for (int reader = 0; reader < x.count(1); reader++) {
            out.append(" reader");
            for (int what = 0; what < 4; what++) {
                out.append(' ').append(x.of(reader, what));
            }
        }
        out.append(" log");
        for (int k = 0; k < x.count(4); k++) {
            out.append(' ').append(x.log(k));
        }
        return out.toString();
    }

    private static BesideAnother books(String... texts) {
        BesideAnother x = new BesideAnother();
        for (int i = 0; i < texts.length; i++) {
            due("book " + texts[i], Telling.book(x, 12, texts[i]), i);
        }
        return x;
    }

    /** So many BOOKS that may be anywhere. */
    private static BesideAnother free(int many) {
        BesideAnother x = new BesideAnother();
        for (int i = 0; i < many; i++) {
            due("book 1", Telling.book(x, 12, "1"), i);
        }
        return x;
    }

    private static void make(BesideAnother x, int... acts) {
        for (int act : acts) {
            if (x.act(act) < 0) {
                FAULTS.add("act(" + act + ") is refused with " + x.why(act));
            }
        }
    }

    /** What a BOOK with this CONDITION is worth on TABLE 0 with nothing open. */
    private static void worth(String condition, int want) {
        BesideAnother x = books(condition);
        due("value of " + condition, x.value(0, 0), want);
    }

    /** Where a text can't be a BOOK's, which leaves all as it is, but THE TEXT empty. */
    private static void wrongAt(String signs, int place) {
        BesideAnother x = books("1+1");
        due("book(12) of " + signs, Telling.book(x, 12, signs), -1 - place);
        due("BOOKS behind " + signs, x.count(0), 1);
        due("THE TEXT behind " + signs, x.count(6), 0);
        due("book(0) of " + signs, Telling.book(x, 0, signs), -1 - place);
        due("the CONDITION behind " + signs, x.value(0, 0), 2);
    }

    private static String many(String sign, int times) {
        return sign.repeat(times);
    }

    // ---------------------------------------------------------------- books: promises 1 to 8

    private static void books() {
        newObject();
        signs();
        bookTexts();
        bookNumbers();
        expressions();
        numbersTold();
        rules();
        limitsAndRoom();
        sheets();
        aboutBooks();
    }

    private static void newObject() {
        on(1, "No BOOKS, no READERS.", () -> {
            BesideAnother x = new BesideAnother();
            due("count(0)", x.count(0), 0);
            due("count(1)", x.count(1), 0);
            due("act(0)", x.act(0), NONE);
            due("sit(0, 0)", x.sit(0, 0), NONE);
            throwing("about(0, 0)", () -> x.about(0, 0));
            throwing("of(0, 0)", () -> x.of(0, 0));
        });
        on(1, "none at first", () -> {
            BesideAnother x = new BesideAnother();
            for (int table = 0; table < 3; table++) {
                due("open", x.open(table), 0);
            }
            due("count(3)", x.count(3), 0);
        });
        on(1, "at most 512 calls after it has been made", () -> {
            BesideAnother x = free(5);
            for (int calls = 15; calls < 511; calls++) {
                due("free()", x.free(), 1);
            }
            row(x, "reach()", x.reach(), 1024 - 3 * (5 * 3 + 1), 31, 5);
        });
    }

    private static void signs() {
        on(2, "Refused: there would be more than 80.", () -> {
            BesideAnother x = new BesideAnother();
            for (int i = 1; i <= 20; i++) {
                due("sign", x.sign(0), 4 * i);
            }
            still(x, "sign with 80", NONE, () -> x.sign(0));
            x.end(77);
            still(x, "sign with 77", NONE, () -> x.sign(0));
            x.end(76);
            due("sign with 76", x.sign(0), 80);
        });
        on(2, "of v the highest byte first", () -> {
            BesideAnother x = new BesideAnother();
            // its lowest byte, 177, can't stand anywhere
            x.sign(0x31 << 24 | 0x2d << 16 | 0x33 << 8 | 0xb1);
            x.sign(0xb1 << 24);
            x.end(3);
            due("book of 1-3", x.book(12), 0);
            due("value of 1-3", x.value(0, 0), -2);
            x.sign(0x31 << 24 | 0x2d << 16 | 0x33 << 8 | 0xb1);
            due("book with a byte that is below 0", x.book(12), -4);
        });
        on(3, "false if it has not so many, or n is below 0", () -> {
            BesideAnother x = new BesideAnother();
            due("end(0) of none", x.end(0), true);
            still(x, "end(1) of none", 0, () -> x.end(1) ? 1 : 0);
            x.sign(0);
            x.sign(0);
            for (int n : new int[] {9, 80, MAX, -1, MIN}) {
                still(x, "end(" + n + ") of 8", 0, () -> x.end(n) ? 1 : 0);
            }
            due("end(8) of 8", x.end(8), true);
            due("count(6)", x.count(6), 8);
            due("end(5) of 8", x.end(5), true);
            due("count(6)", x.count(6), 5);
            due("end(6) of 5", x.end(6), false);
            due("end(0) of 5", x.end(0), true);
            due("count(6)", x.count(6), 0);
        });
    }

    private static void bookTexts() {
        on(4, "a text of at most 60 signs", () -> {
            BesideAnother x = new BesideAnother();
            due("60 signs", Telling.book(x, 12, many("1+", 29) + "11"), 0);
            due("value", x.value(0, 0), 40);
            due("61 signs", Telling.book(x, 12, many("1+", 29) + "(1)"), -61);
            due("80 signs", Telling.book(x, 12, many("1+", 39) + "11"), -61);
        });
        on(4, "the sign at p can't stand there", () -> {
            wrongAt("+", 0);
            wrongAt("\0", 0);
            wrongAt("-1", 0);
            wrongAt("1 ", 1);
            wrongAt("1\u00ff", 1);
            wrongAt("a1", 1);
            wrongAt("()", 1);
            wrongAt("1)", 1);
            wrongAt("1!1", 1);
            wrongAt("1;2;1;2;1", 5);
            wrongAt("(1;2;1)", 2);
            wrongAt(many("1+", 20) + "!" + many("+", 20), 41);
        });
        on(4, "its end, if it ends too early", () -> {
            wrongAt("", 0);
            wrongAt("!", 1);
            wrongAt("1+", 2);
            wrongAt("1<", 2);
            wrongAt("(1", 2);
            wrongAt("((((", 4);
            wrongAt("1;", 2);
            wrongAt("1;2", 3);
            wrongAt("1;2;", 4);
            wrongAt("1;2;(a", 6);
            wrongAt(many("1+", 30), 60);
        });
        on(4, "60, if it has more and the first 60 could go on or end", () -> {
            wrongAt(many("1+", 29) + "11" + "+", 60);
            wrongAt(many("1+", 30) + "1", 60);
            wrongAt(many("!", 80), 60);
            wrongAt(many("1+", 29) + "1(1", 59);
            wrongAt("!" + many("1+", 29) + "(" + ")1", 60);
            wrongAt("1" + many("?", 79), 1);
            wrongAt(many("1+", 28) + "1;2;" + "1", 60);
            wrongAt(many("1+", 28) + "1;7;" + "1", 58);
        });
        on(4, "a NUMBER 1 .. 6 (a digit)", () -> {
            for (int n = 1; n <= 6; n++) {
                BesideAnother x = books("1;" + n + ";0");
                due("about", x.about(0, 4), 0);
            }
            wrongAt("1;0;0", 2);
            wrongAt("1;7;0", 2);
            wrongAt("1;/;0", 2);
            wrongAt("1;:;0", 2);
            wrongAt("1;12;0", 3);
            wrongAt("1;01;0", 2);
            wrongAt("1;a;0", 2);
            wrongAt("1;;0", 2);
        });
    }

    private static void bookNumbers() {
        on(4, "BOOKS 0 .. (at most 12; written a .. l)", () -> {
            BesideAnother x = free(12);
            due("count(0)", x.count(0), 12);
            due("a thirteenth", Telling.book(x, 12, "1"), -100);
            due("count(0)", x.count(0), 12);
            due("the last", Telling.book(x, 11, "1"), 11);
            due("a to l", Telling.book(x, 11, "a+b+c+d+e+f+g+h+i+j+k+l"), 11);
            for (String other : new String[] {"`", "m", "A", "L", "{"}) {
                wrongAt(other, 0);
            }
        });
        on(4, "-100: another number, or 12 with twelve there (asked first)", () -> {
            BesideAnother x = free(2);
            for (int i : new int[] {2, 3, 11, 13, -1, MIN, MAX}) {
                due("book(" + i + ") of 1", Telling.book(x, i, "1"), -100);
                due("book(" + i + ") of +", Telling.book(x, i, "+"), -100);
                due("book(" + i + ") of none", Telling.book(x, i, ""), -100);
            }
            due("count(0)", x.count(0), 2);
            due("book(1)", Telling.book(x, 1, "1"), 1);
            for (int i = 2; i < 12; i++) {
                due("book(12)", Telling.book(x, 12, "1"), i);
            }
            due("book(12) of 1 with twelve", Telling.book(x, 12, "1"), -100);
            due("book(12) of + with twelve", Telling.book(x, 12, "+"), -100);
            due("book(11) of + with twelve", Telling.book(x, 11, "+"), -1);
        });
        on(4, "a number that is there; if it is open, its TABLE SETTLES", () -> {
            BesideAnother x = books("1", "a", "1", "1");
            make(x, 0, 1, OPEN1 + 2);
            due("book(0)", Telling.book(x, 0, "0"), 0);
            due("open(0)", x.open(0), 0);
            due("open(1)", x.open(1), 4);
            // a TABLE where what MAY not be is open SETTLES only if the BOOK is open there
            x.keep(0);
            Telling.book(x, 2, "0");
            due("open(1)", x.open(1), 0);
            x.again(0);
            Telling.book(x, 3, "1");
            due("told anew, not open: nothing SETTLES", x.open(1), 4);
            make(x, 3);
            Telling.book(x, 3, "t<9");
            due("told anew, open elsewhere: TABLE 1 does not", x.open(1), 4);
            make(x, HAND1 + 3);
            due("handed to TABLE 1, which SETTLES", x.open(1), 8);
        });
        on(4, "which a call that reads it empties", () -> {
            BesideAnother x = books("1+1");
            for (int i : new int[] {0, 1, 12, 13}) {
                Telling.text(x, "1+");
                long want = i == 1 || i == 13 ? -100 : -3;
                due("book(" + i + ")", x.book(i), want);
                due("THE TEXT behind book(" + i + ")", x.count(6), 0);
            }
            Telling.text(x, "3");
            due("book(12)", x.book(12), 1);
            due("THE TEXT behind book(12)", x.count(6), 0);
            due("the CONDITION", x.value(0, 0), 2);
        });
    }

    private static void expressions() {
        on(4, "a NUMBER (1 or 2 digits)", () -> {
            worth("0", 0);
            worth("9", 9);
            worth("00", 0);
            worth("09", 9);
            worth("10", 10);
            worth("99", 99);
            wrongAt("100", 2);
            wrongAt("1+000", 4);
        });
        on(4, "(at most 4 in one another)", () -> {
            worth("((((7))))", 7);
            worth("((((1))))+((((2))))", 3);
            wrongAt("(((((1)))))", 4);
            wrongAt("((((1+(1)))))", 6);
            wrongAt("1;1;(((((0)))))", 8);
            BesideAnother x = books("1;1;((((0))))");
            due("count(0)", x.count(0), 1);
        });
        on(4, "not one behind the other", () -> {
            wrongAt("1<2<3", 3);
            wrongAt("1=1=1", 3);
            wrongAt("2>1<3", 3);
            wrongAt("(1<2=3)", 4);
            worth("(3>2)>0", 1);
            worth("3>(2>1)", 1);
            worth("1<2&3<2", 0);
            worth("1<2|3<2", 1);
        });
        on(4, "ahead of a thing (any many)", () -> {
            worth(many("!", 59) + "5", 0);
            worth(many("!", 58) + "5", 1);
            worth("!!(!!0)", 0);
        });
        on(4, "+ - (from the left)", () -> {
            worth("5-2-1", 2);
            worth("5-2+1", 4);
            worth("5-(2+1)", 2);
        });
        on(4, "As ints; | & ! give 1 or 0", () -> {
            worth("0-99-99", -198);
            worth("0-1<0", 1);
            worth("7", 7);
            worth("2|0", 1);
            worth("0|7", 1);
            worth("0|0", 0);
            worth("2&4", 1);
            worth("2&0", 0);
            worth("!7", 0);
            worth("!0", 1);
            worth("0-1|0", 1);
            worth("!(1-2)", 0);
        });
        on(4, "a letter; also one that is not there: 0", () -> {
            BesideAnother x = books("l+b+5");
            due("value without b and l", x.value(0, 0), 5);
            due("book b", Telling.book(x, 12, "1"), 1);
            due("value", x.value(0, 0), 5);
            make(x, 1);
            due("value beside b", x.value(0, 0), 6);
        });
        on(4, "1 if it is open on this TABLE", () -> {
            BesideAnother x = books("b", "1");
            make(x, OPEN1 + 1);
            due("value on TABLE 0", x.value(0, 0), 0);
            due("value on TABLE 1", x.value(0, 1), 1);
            due("value on TABLE 2", x.value(0, 2), 0);
        });
        on(4, "n how many are open on it", () -> {
            BesideAnother x = books("n", "1", "1", "1", "1", "1", "1");
            x.set(1, 2, 6);
            due("value with none", x.value(0, 2), 0);
            make(x, OPEN2 + 1, OPEN2 + 2, OPEN2 + 3, OPEN2 + 4, OPEN2 + 5, OPEN2 + 6);
            due("value with a full TABLE", x.value(0, 2), 6);
            due("value elsewhere", x.value(0, 1), 0);
        });
    }

    private static void numbersTold() {
        on(4, "r how many READERS have READ this BOOK", () -> {
            BesideAnother x = books("r+1", "r+1");
            make(x, 0, 1);
            due("value, READ by none", x.value(0, 0), 1);
            for (int i = 0; i < 6; i++) {
                x.reader(0, 0);
                x.read(i, 0);
                due("value", x.value(0, 0), i + 2);
                due("value elsewhere", x.value(0, 2), i + 2);
            }
            due("value of one that none has READ", x.value(1, 0), 1);
        });
        on(4, "t the TABLE's number", () -> {
            BesideAnother x = books("t");
            for (int table = 0; table < 3; table++) {
                due("value", x.value(0, table), table);
            }
            due("OPEN on TABLE 0", x.act(0), -5);
            due("OPEN on TABLE 2", x.act(OPEN2), 0);
        });
        on(5, "n how many are there; r how many BOOKS it has READ; t its TABLE", () -> {
            BesideAnother x = free(12);
            x.set(1, 2, 6);
            x.reader(0, 0);
            x.reader(1, 0);
            x.reader(2, 0);
            for (int book = 0; book < 12; book++) {
                make(x, OPEN2 + book);
                x.read(2, book);
                if (book < 6) {
                    make(x, SHUT + book);
                }
            }
            Telling.rule(x, "n=6");
            row(x, "order() by a full TABLE", x.order(), 3, 2, 0, 1);
            Telling.rule(x, "n=0");
            row(x, "order() by an empty TABLE", x.order(), 3, 0, 1, 2);
            Telling.rule(x, "r=12");
            row(x, "order() by all READ", x.order(), 3, 2, 0, 1);
            Telling.rule(x, "t=1");
            row(x, "order() by TABLE 1", x.order(), 3, 1, 0, 2);
        });
    }

    private static void rules() {
        on(5, "at first none: 0", () -> {
            BesideAnother x = books("1");
            x.reader(0, 0);
            x.reader(2, 0);
            row(x, "order()", x.order(), 2, 0, 1);
        });
        on(5, "(an empty one: none)", () -> {
            BesideAnother x = books("1");
            x.reader(0, 0);
            x.reader(2, 0);
            due("rule t", Telling.rule(x, "t"), 0);
            row(x, "order()", x.order(), 2, 1, 0);
            due("rule of none", Telling.rule(x, ""), 0);
            row(x, "order()", x.order(), 2, 0, 1);
        });
        on(5, "(one EXPRESSION of at most 40 signs", () -> {
            BesideAnother x = books("1");
            x.reader(0, 0);
            x.reader(2, 0);
            due("40 signs", Telling.rule(x, many("0+", 18) + "00+t"), 0);
            row(x, "order() by t", x.order(), 2, 1, 0);
            due("41 signs", Telling.rule(x, many("0+", 18) + "(0)-t"), -41);
            due("41 signs", Telling.rule(x, many("0+", 18) + "0-99+"), -41);
            due("two of them", Telling.rule(x, "1;1;1"), -2);
            row(x, "order() by t still", x.order(), 2, 1, 0);
        });
        on(5, "as book() (40 signs)", () -> {
            BesideAnother x = books("1");
            x.reader(0, 0);
            x.reader(2, 0);
            Telling.rule(x, "t");
            String[] told = {"+", "1+", "1)1", "(((((t)))))", "m", "1<2<3", "100", many("1+", 20), many("1+", 19) + "1)1", many("!", 80), many("1+", 19) + "11+"};
            int[] place = {0, 2, 1, 4, 0, 3, 2, 40, 39, 40, 40};
            for (int i = 0; i < told.length; i++) {
                due("rule " + told[i], Telling.rule(x, told[i]), -1 - place[i]);
                due("THE TEXT behind " + told[i], x.count(6), 0);
            }
            row(x, "order() by t still", x.order(), 2, 1, 0);
        });
        on(5, "letters of BOOKS: 1, if open on the READER's TABLE", () -> {
            BesideAnother x = books("1");
            x.reader(0, 0);
            x.reader(2, 0);
            due("a letter of none such", Telling.rule(x, "l"), 0);
            row(x, "order() by l", x.order(), 2, 0, 1);
            due("a letter", Telling.rule(x, "a"), 0);
            row(x, "order() by a", x.order(), 2, 0, 1);
            make(x, OPEN2);
            row(x, "order() by a", x.order(), 2, 1, 0);
        });
    }

    private static void limitsAndRoom() {
        on(6, "a LIMIT 0 .. 99 (at first 99)", () -> {
            BesideAnother x = free(2);
            due("set", x.set(0, 1, 0), 99);
            due("set", x.set(0, 1, 99), 0);
            due("set", x.set(0, 1, 1), 99);
            still(x, "set to 100", NONE, () -> x.set(0, 1, 100));
            still(x, "set to -1", NONE, () -> x.set(0, 1, -1));
            still(x, "set to the most", NONE, () -> x.set(0, 1, MAX));
            still(x, "set to the least", NONE, () -> x.set(0, 1, MIN));
            due("set", x.set(0, 1, 2), 1);
        });
        on(6, "each with ROOM 1 .. 6 (at first 3)", () -> {
            for (int i = 0; i < 3; i++) {
                BesideAnother x = free(1);
                int table = i;
                due("set", x.set(1, table, 1), 3);
                due("set", x.set(1, table, 6), 1);
                still(x, "set to 0", NONE, () -> x.set(1, table, 0));
                still(x, "set to 7", NONE, () -> x.set(1, table, 7));
                still(x, "set to -1", NONE, () -> x.set(1, table, -1));
                due("set", x.set(1, table, 2), 6);
            }
        });
        on(6, "what is open stays", () -> {
            BesideAnother x = free(4);
            make(x, 0, 1, 2);
            due("set", x.set(1, 0, 1), 3);
            due("open(0)", x.open(0), 7);
            make(x, SHUT + 1);
            due("open(0)", x.open(0), 5);
            due("no ROOM for another", x.act(3), -4);
        });
        on(6, "Refused: others.", () -> {
            int[][] others = {{0, 2, 1}, {0, 11, 1}, {0, 12, 1}, {0, -1, 1}, {0, MIN, 1}, {0, MAX, 1}, {1, 3, 1}, {1, -1, 1}, {1, MAX, 1},
                {2, 0, 1}, {-1, 0, 1}, {MIN, 0, 1}};
            for (int[] o : others) {
                BesideAnother x = free(2);
                still(x, "set(" + o[0] + ", " + o[1] + ", " + o[2] + ")", NONE, () -> x.set(o[0], o[1], o[2]));
            }
        });
    }

    private static void sheets() {
        on(7, "of bytes, shorts the lowest bits, with their sign", () -> {
            BesideAnother x = free(1);
            int[] told = {127, 128, 255, 256, 256 + 50, 50 - 256, -1, 32767, 32768, 65535, 65536 + 50, 50 - 65536, MIN + 50};
            int[] bytes = {99, 0, 0, 0, 50, 50, 0, 0, 0, 0, 50, 50, 50};
            int[] shorts = {99, 99, 99, 99, 99, 0, 0, 99, 0, 0, 50, 50, 50};
            int[] ints = {99, 99, 99, 99, 99, 0, 0, 99, 99, 99, 99, 0, 0};
            for (int i = 0; i < told.length; i++) {
                due("byte " + told[i], x.sheet(0, 1, told[i], 0), bytes[i]);
                due("short " + told[i], x.sheet(1, 1, told[i], 0), shorts[i]);
                due("int " + told[i], x.sheet(2, 1, told[i], 0), ints[i]);
            }
        });
        on(7, "put to 0 .. 99", () -> {
            BesideAnother x = free(1);
            int[] told = {-1, 0, 1, 98, 99, 100, 127, -128};
            int[] put = {0, 0, 1, 98, 99, 99, 99, 0};
            for (int i = 0; i < told.length; i++) {
                for (int kind = 0; kind < 3; kind++) {
                    due("sheet of " + told[i], x.sheet(kind, 1, told[i], 0), put[i]);
                    due("about", x.about(0, 0), put[i]);
                }
            }
        });
        on(7, "of n entries f, f + step, ..", () -> {
            BesideAnother x = free(3);
            due("sheet", x.sheet(2, 3, 10, 20), 10 + 30 + 50);
            due("about", x.about(0, 0), 10);
            due("about", x.about(2, 0), 50);
            due("steps down", x.sheet(2, 3, 50, -30), 50 + 20);
            due("ints that go round", x.sheet(2, 3, MAX, 1), 99);
            due("ints that go round twice", x.sheet(2, 3, 7, MIN), 7 + 0 + 7);
            due("bytes that go round", x.sheet(0, 3, 100, 100), 99 + 0 + 44);
            due("shorts that go round", x.sheet(1, 3, 32767, 32770), 99 + 1 + 0);
        });
        on(7, "those behind it have 99", () -> {
            BesideAnother x = free(3);
            due("three", x.sheet(2, 3, 5, 0), 15);
            due("two", x.sheet(2, 2, 5, 0), 10 + 99);
            due("one", x.sheet(1, 1, 5, 0), 5 + 99 + 99);
            due("none", x.sheet(0, 0, 5, 0), 99 + 99 + 99);
            due("more than there are", x.sheet(2, 12, 5, 0), 15);
            due("one more BOOK", Telling.book(x, 12, "1"), 3);
            due("about", x.about(3, 0), 99);
        });
        on(7, "the sum of LIMITS of the BOOKS there are", () -> {
            due("no BOOKS", new BesideAnother().sheet(2, 12, 7, 0), 0);
            BesideAnother x = free(12);
            due("twelve of 7", x.sheet(2, 12, 7, 0), 84);
            due("none of 7", x.sheet(2, 0, 7, 0), 12 * 99);
        });
        on(7, "-2: n below 0 (of kinds 0 .. 2; nothing changes)", () -> {
            BesideAnother x = free(2);
            x.sheet(2, 2, 5, 0);
            for (int i = 0; i < 3; i++) {
                int kind = i;
                still(x, "sheet of -1", -2, () -> x.sheet(kind, -1, 7, 0));
                still(x, "sheet of the least", -2, () -> x.sheet(kind, MIN, 7, 0));
            }
            due("a missing one of -1", x.sheet(3, -1, 7, 0), -3);
        });
        on(7, "-3: missing (all 99)", () -> {
            BesideAnother x = free(2);
            for (int n : new int[] {0, 2, 12, -1, MIN}) {
                x.sheet(2, 2, 5, 0);
                due("sheet", x.sheet(3, n, 5, 0), -3);
                due("about", x.about(0, 0), 99);
                due("about", x.about(1, 0), 99);
            }
        });
        on(7, "NONE: another kind, n above 12 (these first)", () -> {
            for (int n : new int[] {-1, 0, 2, 13}) {
                BesideAnother x = free(2);
                x.sheet(2, 2, 5, 0);
                for (int kind : new int[] {-1, 4, MIN, MAX}) {
                    still(x, "sheet of kind " + kind, NONE, () -> x.sheet(kind, n, 7, 0));
                }
            }
            for (int i = 0; i <= 3; i++) {
                BesideAnother x = free(2);
                x.sheet(2, 2, 5, 0);
                int kind = i;
                still(x, "sheet of 13", NONE, () -> x.sheet(kind, 13, 7, 0));
                still(x, "sheet of the most", NONE, () -> x.sheet(kind, MAX, 7, 0));
            }
        });
    }

    private static void aboutBooks() {
        on(8, "the TABLE on which it is open (NONE)", () -> {
            BesideAnother x = free(2);
            due("about, not open", x.about(0, 2), NONE);
            make(x, 0, OPEN2 + 1);
            due("about", x.about(0, 2), 0);
            due("about", x.about(1, 2), 2);
            make(x, SHUT);
            due("about, shut", x.about(0, 2), NONE);
        });
        on(8, "once so many READERS have READ it; else the first one is", () -> {
            BesideAnother x = books("1;1;1", "1;6;1", "1");
            make(x, 0, 1, 2);
            for (int i = 0; i < 6; i++) {
                x.reader(0, 7);
                due("about a", x.about(0, 4), i > 0 ? 1 : 0);
                x.read(i, 0);
                due("about a", x.about(0, 4), 1);
                due("about b", x.about(1, 4), 0);
                x.read(i, 2);
                due("about c, which has no second", x.about(2, 4), 0);
            }
            for (int i = 0; i < 6; i++) {
                due("about b", x.about(1, 4), 0);
                x.read(i, 1);
                x.read(i, 1);
            }
            due("about b", x.about(1, 4), 1);
            due("about b: how many have READ it", x.about(1, 3), 6);
        });
        on(8, "NoSuchElementException: none such, another what.", () -> {
            BesideAnother x = free(2);
            for (int what = 0; what < 5; what++) {
                int asked = what;
                for (int book : new int[] {2, 11, 12, -1, MIN, MAX}) {
                    throwing("about(" + book + ", " + asked + ")", () -> x.about(book, asked));
                }
            }
            for (int what : new int[] {5, -1, MIN, MAX}) {
                throwing("about(1, " + what + ")", () -> x.about(1, what));
            }
        });
    }

    // ---------------------------------------------------------------- acts: promises 9 to 15

    private static void acts() {
        opens();
        refusals();
        limitsAndPlaces();
        settling();
        whatCan();
        nights();
        judging();
    }

    private static void opens() {
        on(9, "NONE: none such.", () -> {
            BesideAnother x = free(1);
            make(x, OPEN2);
            due("open(0)", x.open(0), 0);
            due("open(2)", x.open(2), 1);
            for (int table : new int[] {3, -1, MIN, MAX}) {
                still(x, "open(" + table + ")", NONE, () -> x.open(table));
            }
        });
        on(10, "(without the BOOK, if it is not open there)", () -> {
            BesideAnother x = books("n+a");
            due("value, not open", x.value(0, 0), 0);
            Telling.book(x, 0, "n+a|n<1");
            make(x, 0);
            Telling.book(x, 0, "n+a");
            due("value where it is open", x.value(0, 0), 2);
            due("value elsewhere", x.value(0, 1), 0);
        });
        on(10, "NoSuchElementException: none such.", () -> {
            BesideAnother x = free(2);
            due("value", x.value(1, 2), 1);
            for (int book : new int[] {2, 11, -1, MIN, MAX}) {
                throwing("value(" + book + ", 0)", () -> x.value(book, 0));
            }
            for (int table : new int[] {3, -1, MIN, MAX}) {
                throwing("value(0, " + table + ")", () -> x.value(0, table));
            }
        });
    }

    private static void refusals() {
        on(11, "NONE: no such ACT", () -> {
            for (int kind = 0; kind < 7; kind++) {
                for (int book = 3; book < 20; book++) {
                    BesideAnother x = free(3);
                    int act = 20 * kind + book;
                    still(x, "act(" + act + ")", NONE, () -> x.act(act));
                }
            }
            for (int act : new int[] {-1, -20, 140, 141, MIN, MAX}) {
                BesideAnother x = free(3);
                still(x, "act(" + act + ")", NONE, () -> x.act(act));
            }
            BesideAnother y = free(12);
            due("act(131) with twelve", y.act(131), -2);
            due("act(132) with twelve", y.act(132), NONE);
            due("act(51) with twelve", y.act(51), 0);
        });
        on(11, "refused with why (the first)", () -> {
            BesideAnother x = fullTable();
            make(x, OPEN2 + 3);
            x.set(0, 0, 0);
            still(x, "open already, no LIMIT left, no ROOM", -2, () -> x.act(0));
            still(x, "open on just that TABLE, no ROOM", -2, () -> x.act(HAND0));
            still(x, "HAND: no ROOM, it MAY not", -4, () -> x.act(HAND0 + 3));
            still(x, "HAND: it MAY not", -5, () -> x.act(HAND1 + 3));
            BesideAnother y = fullTable();
            y.set(0, 3, 0);
            still(y, "no LIMIT left, no ROOM, it MAY not", -3, () -> y.act(3));
            still(y, "no LIMIT left, it MAY not", -3, () -> y.act(OPEN1 + 3));
            y.set(0, 3, 1);
            still(y, "no ROOM, it MAY not", -4, () -> y.act(3));
            still(y, "it MAY not", -5, () -> y.act(OPEN1 + 3));
            due("nothing of it", y.act(OPEN2 + 3), 0);
        });
        on(11, "-2: the BOOK is open already (OPEN), or not open (SHUT, HAND), or open on just that TABLE (HAND)", () -> {
            BesideAnother x = free(1);
            still(x, "SHUT, not open", -2, () -> x.act(SHUT));
            for (int table = 0; table < 3; table++) {
                int hand = HAND0 + 20 * table;
                still(x, "HAND, not open", -2, () -> x.act(hand));
            }
            make(x, OPEN1);
            for (int table = 0; table < 3; table++) {
                int open = 20 * table;
                still(x, "OPEN, open already", -2, () -> x.act(open));
            }
            still(x, "HAND to its own TABLE", -2, () -> x.act(HAND1));
            due("HAND to another", x.act(HAND2), 0);
            due("HAND to the first", x.act(HAND0), 0);
            due("open(0)", x.open(0), 1);
            due("SHUT", x.act(SHUT), 0);
        });
        on(11, "-5: it MAY not be there", () -> {
            BesideAnother x = books("t=1", "a");
            still(x, "OPEN a on 0", -5, () -> x.act(0));
            make(x, OPEN1);
            still(x, "OPEN b without a", -5, () -> x.act(OPEN2 + 1));
            make(x, OPEN1 + 1);
            still(x, "HAND b away from a", -5, () -> x.act(HAND2 + 1));
            still(x, "HAND a", -5, () -> x.act(HAND2));
            due("SHUT a", x.act(SHUT), 2);
            due("OPEN b", x.act(OPEN1 + 1), -5);
        });
        on(11, "if its CONDITION is not 0", () -> {
            BesideAnother x = books("0-1", "2-2", "2");
            due("OPEN by -1", x.act(0), 0);
            due("OPEN by 0", x.act(1), -5);
            due("OPEN by 2", x.act(2), 0);
            due("open(0)", x.open(0), 5);
        });
        on(11, "each BOOK on one at most", () -> {
            BesideAnother x = free(1);
            make(x, 0, HAND2);
            due("open(0)", x.open(0), 0);
            due("open(2)", x.open(2), 1);
            due("OPEN elsewhere", x.act(OPEN1), -2);
            due("open(1)", x.open(1), 0);
        });
    }

    /** TABLE 0 has no ROOM more; d MAY be on TABLE 2 alone. */
    private static BesideAnother fullTable() {
        BesideAnother x = books("1", "1", "1", "t=2");
        make(x, 0, 1, 2);
        return x;
    }

    private static void limitsAndPlaces() {
        on(11, "-3: no LIMIT left (OPEN)", () -> {
            BesideAnother x = free(1);
            x.set(0, 0, 2);
            make(x, 0, SHUT, OPEN1);
            due("HAND needs no LIMIT", x.act(HAND2), 0);
            make(x, SHUT);
            still(x, "OPENED as often as LIMIT", -3, () -> x.act(0));
            x.set(0, 0, 1);
            still(x, "OPENED more often than LIMIT", -3, () -> x.act(0));
            x.set(0, 0, 3);
            due("OPENED less than LIMIT", x.act(0), 0);
            due("SHUT needs no LIMIT", x.act(SHUT), 0);
            BesideAnother y = free(1);
            y.set(0, 0, 0);
            still(y, "LIMIT 0", -3, () -> y.act(OPEN2));
        });
        on(11, "-4: no ROOM", () -> {
            BesideAnother x = free(8);
            make(x, 0, 1, 2);
            due("a fourth with ROOM for 3", x.act(3), -4);
            make(x, OPEN1 + 3);
            still(x, "HAND to a full TABLE", -4, () -> x.act(HAND0 + 3));
            x.set(1, 0, 6);
            make(x, HAND0 + 3, 4, 5);
            still(x, "a seventh with ROOM for 6", -4, () -> x.act(6));
            x.set(1, 0, 5);
            due("six open with ROOM for 5", x.act(6), -4);
            make(x, SHUT);
            due("five open with ROOM for 5", x.act(6), -4);
            make(x, SHUT + 1);
            due("four open with ROOM for 5", x.act(6), 0);
            x.set(1, 2, 1);
            make(x, OPEN2);
            due("a second with ROOM for 1", x.act(OPEN2 + 1), -4);
        });
        on(11, "OPENED is 1 more", () -> {
            BesideAnother x = books("1", "n<1", "0");
            make(x, 0, SHUT, OPEN1);
            due("OPENED", x.about(0, 1), 2);
            due("OPEN b, which SETTLES shut at once", x.act(1), 2);
            due("OPENED of it", x.about(1, 1), 1);
            due("OPEN c", x.act(2), -5);
            due("OPENED of what is refused", x.about(2, 1), 0);
        });
        on(11, "OPENED stays", () -> {
            BesideAnother x = free(1);
            make(x, 0, HAND1, HAND2, HAND0);
            due("OPENED", x.about(0, 1), 1);
        });
    }

    private static void settling() {
        on(11, "if it MAY be there by what is open on it (without it)", () -> {
            BesideAnother x = books("n<1", "!b", "c");
            due("OPEN a: it MAY on an empty TABLE, not beside itself", x.act(0), 1);
            due("OPEN b: it MAY, and not beside itself", x.act(1), 2);
            due("OPEN c: only beside itself", x.act(2), -5);
            due("count(3)", x.count(3), 0);
        });
        on(11, "if that has ROOM and it MAY be there (by what was open on it)", () -> {
            BesideAnother x = books("1", "t=0|a");
            make(x, OPEN1, 1);
            due("HAND b, away from where it MAY be", x.act(HAND2 + 1), -5);
            due("HAND b to where a is", x.act(HAND1 + 1), 0);
            due("HAND a, which leaves b", x.act(HAND2), 2);
            BesideAnother y = books("t=0|n<1", "1");
            make(y, 0, OPEN2 + 1);
            due("HAND a beside b", y.act(HAND2), -5);
            due("HAND a to an empty TABLE: it SETTLES shut there", y.act(HAND1), 1);
            due("count(3)", y.count(3), 2);
        });
        on(11, "BOOKS (bits) that SETTLED shut by it", () -> {
            BesideAnother x = books("1", "a", "!a", "1");
            due("OPEN: none", x.act(0), 0);
            make(x, 1, OPEN1 + 2, OPEN1 + 3);
            due("HAND: on both TABLES, not itself", x.act(HAND1), 2 + 4);
            due("open(1)", x.open(1), 1 + 8);
            make(x, OPEN1 + 1);
            due("SHUT: not itself", x.act(SHUT), 2);
            due("SHUT: none", x.act(SHUT + 3), 0);
            due("count(3)", x.count(3), 0);
        });
        on(11, "shut at once, again and again, till all MAY be", () -> {
            BesideAnother x = books("1", "a", "b", "c", "d", "e");
            x.set(1, 0, 6);
            make(x, 0, 1, 2, 3, 4, 5);
            due("SHUT a: a row of five", x.act(SHUT), 62);
            BesideAnother y = books("n<3", "n<3", "n<3|!a&!b");
            make(y, 0, 1);
            due("OPEN c: a and b go at once, and c then MAY", y.act(2), 7);
            BesideAnother z = books("n<3", "n<3", "1");
            make(z, 0, 1);
            due("OPEN c: neither a nor b waits for the other to go", z.act(2), 3);
        });
    }

    /** A BOOK for each way to be refused. */
    private static BesideAnother allKinds() {
        BesideAnother x = books("1", "a", "t=1", "0");
        make(x, 0, 1);
        x.set(0, 2, 0);
        x.set(1, 0, 2);
        return x;
    }

    private static void whatCan() {
        on(12, "0: it would not. Nothing changes.", () -> {
            for (int act = -3; act < 143; act++) {
                int asked = act;
                BesideAnother x = allKinds();
                still(x, "why(" + act + ")", Math.min(allKinds().act(act), 0), () -> x.why(asked));
            }
            BesideAnother x = allKinds();
            due("why", x.why(SHUT), 0);
            due("why, where BOOKS would SETTLE shut", x.why(HAND2), 0);
            due("why", x.why(OPEN1), -2);
            due("why", x.why(OPEN1 + 2), -3);
            due("why", x.why(3), -4);
            due("why", x.why(OPEN1 + 3), -5);
            due("why", x.why(4), NONE);
            due("why", x.why(MIN), NONE);
            due("why", x.why(MAX), NONE);
        });
        on(13, "the first 8 of them, by numbers", () -> {
            BesideAnother none = new BesideAnother();
            row(none, "can() without BOOKS", none.can(), 0);
            BesideAnother never = books("0");
            row(never, "can()", never.can(), 0);
            BesideAnother eight = books("1", "1", "t>0");
            row(eight, "can()", eight.can(), 8, 0, 1, 20, 21, 22, 40, 41, 42);
            BesideAnother nine = free(3);
            row(nine, "can()", nine.can(), 9, 0, 1, 2, 20, 21, 22, 40, 41);
            BesideAnother all = free(12);
            row(all, "can()", all.can(), 36, 0, 1, 2, 3, 4, 5, 6, 7);
        });
        on(13, "ACTS of OPEN and HAND that could be made now", () -> {
            BesideAnother x = free(2);
            make(x, 0, OPEN1 + 1);
            row(x, "can()", x.can(), 4, HAND0 + 1, HAND1, HAND2, HAND2 + 1);
            x.set(1, 0, 1);
            x.set(1, 1, 1);
            row(x, "can()", x.can(), 2, HAND2, HAND2 + 1);
            x.set(1, 2, 1);
            make(x, HAND2);
            row(x, "can()", x.can(), 2, HAND0, HAND0 + 1);
            Telling.book(x, 12, "1");
            make(x, 2);
            row(x, "can(): all full, though each can be SHUT", x.can(), 0);
        });
    }

    private static void nights() {
        on(14, "NONE: bits of none such.", () -> {
            for (int keep : new int[] {8, 9, 1 << 12, 1 << 31, -1, MIN, MAX}) {
                BesideAnother x = free(3);
                make(x, 0, OPEN1 + 1);
                still(x, "night(" + keep + ")", NONE, () -> x.night(keep));
            }
            BesideAnother y = free(12);
            make(y, 11);
            due("night of all twelve", y.night(4095), 2048);
            due("night of a thirteenth", y.night(4096), NONE);
            due("night without BOOKS", new BesideAnother().night(0), 0);
            due("night without BOOKS", new BesideAnother().night(1), NONE);
        });
        on(14, "all BOOKS that are open shut but those told as bits", () -> {
            BesideAnother x = free(4);
            make(x, 0, OPEN1 + 1, OPEN2 + 2);
            due("night of all, and one that is not open", x.night(15), 7);
            due("night of two", x.night(6), 6);
            due("night of none", x.night(0), 0);
            due("count(3)", x.count(3), 0);
            due("night with nothing open", x.night(15), 0);
        });
        on(14, "then TABLES SETTLE", () -> {
            BesideAnother x = books("1", "a", "b", "1");
            make(x, 0, 1, 2, OPEN2 + 3);
            due("night: c goes behind b", x.night(2 + 4 + 8), 8);
            // what MAY not be goes, though all are told
            x.keep(0);
            Telling.book(x, 3, "0");
            x.again(0);
            due("count(3)", x.count(3), 8);
            due("night of all", x.night(15), 0);
        });
    }

    private static void judging() {
        on(15, "n ACTS (0 .. 8)", () -> {
            BesideAnother x = free(1);
            make(x, OPEN1);
            row(x, "judge of none", x.judge(0, -1, -1), -2, 0, 1, 0);
            row(x, "judge of one: others are not looked at", x.judge(1, HAND0 | 255 << 8, -1), -2, 1, 0, 0);
            int there = HAND2 | HAND1 << 8 | HAND2 << 16 | HAND1 << 24;
            row(x, "judge of seven", x.judge(7, there, there & 0xffffff | 255 << 24), -2, 0, 0, 1);
            row(x, "judge of eight", x.judge(8, there, there), -2, 0, 1, 0);
        });
        on(15, "8 bits each, from the lowest on, 4 in a, then 4 in b", () -> {
            BesideAnother x = free(12);
            x.set(1, 2, 4);
            // 128 .. 131: HAND to TABLE 2 of BOOKS 8 .. 11
            int a = 8 | 9 << 8 | 10 << 16 | 128 << 24;
            int b = 129 | 130 << 8 | 11 << 16 | 131 << 24;
            row(x, "judge", x.judge(8, a, b), -2, 0, 0, 15 << 8);
            row(x, "judge", x.judge(4, a, b), -2, 6 << 8, 0, 1 << 8);
            row(x, "judge", x.judge(5, a, b), -2, 4 << 8, 0, 3 << 8);
        });
        on(15, "-2: all can be made; else the number of the first that can't (0 ..)", () -> {
            BesideAnother x = books("1", "a");
            int open = 0 | 1 << 8 | SHUT << 16 | 0 << 24;
            int shut = SHUT | 0 << 8 | SHUT << 16 | 1 << 24;
            row(x, "the first", x.judge(8, 1, 0), 0, 0, 0, 0);
            row(x, "the last", x.judge(8, open, shut), 7, 0, 0, 0);
            row(x, "none", x.judge(7, open, shut), -2, 0, 0, 0);
            row(x, "the fifth, as the BOOK is open", x.judge(8, open, 0), 4, 1, 0, 0);
            row(x, "no such ACT", x.judge(2, 0 | 140 << 8, 0), 1, 1, 0, 0);
            row(x, "no such ACT", x.judge(2, 0 | 255 << 8, 0), 1, 1, 0, 0);
            row(x, "no such BOOK", x.judge(2, 0 | 2 << 8, 0), 1, 1, 0, 0);
        });
        on(15, "(OPENED counts on as they are made)", () -> {
            BesideAnother x = free(1);
            x.set(0, 0, 3);
            make(x, 0, SHUT);
            int twice = 0 | SHUT << 8 | OPEN1 << 16 | SHUT << 24;
            row(x, "judge of two more", x.judge(4, twice, 0), -2, 0, 0, 0);
            row(x, "judge of a third", x.judge(5, twice, 0), 4, 0, 0, 0);
        });
        on(15, "Nothing changes.", () -> {
            BesideAnother x = books("1", "a");
            make(x, OPEN1);
            x.judge(0, 0, 0);
            due("the ROW", x.row(1), 1);
            // it tells the same ROW again
            int there = OPEN1 + 1 | SHUT << 8 | OPEN1 << 16;
            still(x, "judge", -2, () -> x.judge(3, there, 0));
            due("OPENED", x.about(0, 1), 1);
        });
        on(15, "NONE: another n.", () -> {
            BesideAnother x = free(1);
            x.can();
            for (int n : new int[] {9, -1, MIN, MAX}) {
                still(x, "judge(" + n + ")", NONE, () -> x.judge(n, 0, 0));
            }
        });
    }

    // ---------------------------------------------------------------- readers: promises 16 to 23

    private static void readers() {
        seats();
        reading();
        manyHours();
        turns();
        logs();
        orders();
        rings();
    }

    private static void seats() {
        on(16, "Refused: none such TABLE, LIST of none such, 6.", () -> {
            int[][] refused = {{3, 0}, {-1, 0}, {MIN, 0}, {MAX, 0}, {0, 4}, {0, 5}, {0, 1 << 12}, {0, -1}, {0, MIN}, {0, MAX}};
            for (int[] r : refused) {
                BesideAnother x = free(2);
                still(x, "reader(" + r[0] + ", " + r[1] + ")", NONE, () -> x.reader(r[0], r[1]));
            }
            BesideAnother x = free(2);
            for (int i = 0; i < 6; i++) {
                due("reader", x.reader(i % 3, i % 4), i);
            }
            still(x, "a seventh", NONE, () -> x.reader(0, 0));
            BesideAnother y = new BesideAnother();
            due("LIST of none without BOOKS", y.reader(2, 0), 0);
            due("LIST of one without BOOKS", y.reader(2, 1), NONE);
            BesideAnother z = free(12);
            due("LIST of thirteen with twelve", z.reader(0, 8191), NONE);
            due("LIST of all twelve", z.reader(0, 4095), 0);
        });
        on(17, "Refused: others.", () -> {
            int[][] refused = {{0, 3}, {0, -1}, {0, MIN}, {0, MAX}, {2, 0}, {5, 0}, {6, 0}, {-1, 0}, {MIN, 0}, {MAX, 0}};
            for (int[] r : refused) {
                BesideAnother x = free(1);
                x.reader(1, 1);
                x.reader(2, 0);
                still(x, "sit(" + r[0] + ", " + r[1] + ")", NONE, () -> x.sit(r[0], r[1]));
            }
            BesideAnother x = free(1);
            x.reader(1, 1);
            due("sit where it sits", x.sit(0, 1), 1);
            due("sit", x.sit(0, 2), 1);
            due("sit", x.sit(0, 0), 2);
            due("of", x.of(0, 0), 0);
        });
        on(19, "what is left of its LIST", () -> {
            BesideAnother x = free(3);
            x.reader(0, 3);
            x.reader(0, 0);
            make(x, 0, 1, 2);
            due("left of two", x.of(0, 3), 3);
            due("left of none", x.of(1, 3), 0);
            x.read(0, 2);
            x.read(1, 2);
            due("left, as c is not on it", x.of(0, 3), 3);
            due("left of none", x.of(1, 3), 0);
            x.read(0, 0);
            due("left of two", x.of(0, 3), 2);
            x.read(0, 1);
            due("all READ", x.of(0, 3), 0);
            due("READ", x.of(0, 2), 7);
            due("LIST", x.of(0, 1), 3);
        });
        on(19, "NoSuchElementException: none such, another what.", () -> {
            BesideAnother x = free(1);
            throwing("of(0, 0) without READERS", () -> x.of(0, 0));
            x.reader(0, 1);
            x.reader(0, 1);
            for (int reader : new int[] {2, 5, 6, -1, MIN, MAX}) {
                for (int what = 0; what < 4; what++) {
                    int asked = what;
                    throwing("of(" + reader + ", " + asked + ")", () -> x.of(reader, asked));
                }
            }
            for (int what : new int[] {4, -1, MIN, MAX}) {
                throwing("of(1, " + what + ")", () -> x.of(1, what));
            }
        });
    }

    private static void reading() {
        on(18, "(also once more; the TABLE SETTLES then)", () -> {
            BesideAnother x = books("1;2;0", "a", "1");
            x.reader(0, 0);
            x.reader(0, 0);
            make(x, 0, 1, OPEN1 + 2);
            due("read", x.read(0, 0), 1);
            due("once more", x.read(0, 0), 1);
            due("open(0)", x.open(0), 3);
            due("by another", x.read(1, 0), 2);
            due("a SETTLES shut, then b", x.open(0), 0);
            // once more: what MAY not be goes from its TABLE, not from another one
            BesideAnother y = free(2);
            y.reader(0, 0);
            make(y, 0, OPEN1 + 1);
            due("read", y.read(0, 0), 1);
            y.keep(0);
            Telling.book(y, 0, "0");
            Telling.book(y, 1, "0");
            y.again(0);
            due("once more", y.read(0, 0), 1);
            due("open(0)", y.open(0), 0);
            due("open(1)", y.open(1), 2);
        });
        on(18, "-2: it is not open there; NONE: none such.", () -> {
            int[][] refused = {{2, 0}, {6, 0}, {-1, 0}, {MIN, 0}, {MAX, 0}, {0, 2}, {0, 11}, {0, 12}, {0, -1}, {0, 32}, {0, MIN}, {0, MAX}};
            for (int[] r : refused) {
                BesideAnother x = twoSeats();
                still(x, "read(" + r[0] + ", " + r[1] + ")", NONE, () -> x.read(r[0], r[1]));
            }
            BesideAnother x = twoSeats();
            still(x, "read what is open elsewhere", -2, () -> x.read(1, 0));
            still(x, "read what is not open", -2, () -> x.read(0, 1));
            x.sit(1, 0);
            due("read", x.read(1, 0), 1);
        });
        on(18, "how many have READ it", () -> {
            BesideAnother x = free(1);
            make(x, OPEN2);
            for (int i = 0; i < 6; i++) {
                x.reader(2, 0);
            }
            for (int i = 5; i >= 0; i--) {
                due("read", x.read(i, 0), 6 - i);
            }
            due("once more", x.read(3, 0), 6);
        });
    }

    /** Two READERS, one on each of two TABLES; a is open where the first sits. */
    private static BesideAnother twoSeats() {
        BesideAnother x = free(2);
        x.reader(0, 1);
        x.reader(1, 1);
        make(x, 0);
        return x;
    }

    /** One wants c, which MAY not be beside a, the other b, which MAY be beside a alone: they SHUT and OPEN a for ever. */
    private static BesideAnother endless() {
        BesideAnother x = books("1", "a", "!a");
        x.reader(0, 4);
        x.reader(0, 2);
        make(x, 0);
        return x;
    }

    private static void manyHours() {
        on(20, "n HOURS (0 .. 50) at most", () -> {
            BesideAnother x = endless();
            row(x, "hours(0)", x.hours(0), 0, 0, 0);
            due("HOURS", x.count(2), 0);
            row(x, "hours(1)", x.hours(1), 1, 0, 0);
            due("HOURS", x.count(2), 1);
            row(x, "hours(50)", x.hours(50), 50, 0, 0);
            due("HOURS", x.count(2), 51);
            due("OPENED", x.about(0, 1), 52);
            due("log", x.log(0), 140);
            due("log", x.log(1), 60);
        });
        on(20, "till nobody did anything in one", () -> {
            BesideAnother x = free(1);
            x.reader(0, 1);
            row(x, "OPEN, READ, nothing", x.hours(50), 3, 1, 1);
            row(x, "nothing", x.hours(50), 1, 1, 1);
            due("HOURS", x.count(2), 4);
            due("THE LOG", x.count(4), 4);
            BesideAnother y = new BesideAnother();
            row(y, "without READERS", y.hours(50), 1, 1, 0);
            due("HOURS", y.count(2), 1);
            due("THE LOG", y.count(4), 0);
        });
        on(20, "(0 else, or without)", () -> {
            BesideAnother x = free(1);
            x.reader(0, 1);
            row(x, "OPEN", x.hours(1), 1, 0, 0);
            row(x, "READ", x.hours(1), 1, 0, 1);
            row(x, "nothing", x.hours(1), 1, 1, 1);
            row(x, "without an HOUR", x.hours(0), 0, 0, 1);
        });
        on(20, "READERS (bits) with nothing left of their LISTS", () -> {
            BesideAnother x = free(2);
            for (int i = 0; i < 6; i++) {
                x.reader(2, i == 3 ? 3 : 0);
            }
            row(x, "those without a LIST", x.hours(0), 0, 0, 63 - 8);
            row(x, "and one that READ a, not b", x.hours(2), 2, 0, 63 - 8);
            row(x, "all", x.hours(2), 2, 0, 63);
        });
        on(20, "NONE: others.", () -> {
            for (int n : new int[] {51, 52, -1, MIN, MAX}) {
                BesideAnother x = endless();
                x.can();
                still(x, "hours(" + n + ")", NONE, () -> x.hours(n));
            }
        });
        on(20, "HOURS are counted", () -> {
            BesideAnother x = free(1);
            due("HOURS", x.count(2), 0);
            x.hours(-1);
            x.hours(51);
            x.hours(0);
            due("HOURS", x.count(2), 0);
            x.hours(50);
            x.hours(1);
            due("HOURS in which nobody did anything", x.count(2), 2);
        });
    }

    private static void turns() {
        on(20, "in an order as the HOUR begins", () -> {
            BesideAnother x = free(2);
            x.reader(0, 2);
            x.reader(0, 1);
            Telling.rule(x, "r");
            x.hours(2);
            due("log: OPEN b", x.log(3), 41);
            due("log: OPEN a", x.log(2), 140);
            // behind the first one's READ it would still be ahead
            due("log: READ b", x.log(1), 21);
            due("log: READ a", x.log(0), 120);
            BesideAnother y = books("1", "1");
            y.reader(0, 1);
            y.reader(1, 2);
            Telling.rule(y, "t=1&n=0");
            y.hours(1);
            due("log: the second one first, though it OPENS b then", y.log(1), 141);
            due("log", y.log(0), 40);
            y.hours(1);
            due("log: of equal ones the first", y.log(1), 20);
            due("log", y.log(0), 121);
        });
        on(20, "Each READS the first BOOK of its LIST that it has not READ and that is open on its TABLE (which SETTLES then)", () -> {
            BesideAnother x = books("1;1;0", "a", "1");
            x.reader(0, 5);
            x.reader(1, 4);
            make(x, 0, 1, 2);
            x.hours(1);
            due("log: READ a, not c", x.log(1), 20);
            due("log: c is open elsewhere", x.log(0), 100);
            due("a SETTLES shut, then b", x.open(0), 4);
            x.hours(1);
            due("log: READ c", x.log(1), 22);
            x.hours(1);
            due("log: nothing, though c is open", x.log(1), 0);
        });
        on(20, "else OPENS on its TABLE the first BOOK of its LIST that it has not READ, and that it can", () -> {
            BesideAnother x = books("0", "1", "1", "1");
            x.reader(2, 1 + 4 + 8);
            x.hours(1);
            due("log: OPEN c", x.log(0), 42);
            due("open(2)", x.open(2), 4);
            x.hours(4);
            due("log: READ c", x.log(3), 22);
            due("log: OPEN d", x.log(2), 43);
            due("log: READ d", x.log(1), 23);
            due("log: not a, which it can't OPEN", x.log(0), 0);
            BesideAnother y = free(1);
            y.reader(0, 1);
            y.set(0, 0, 0);
            y.hours(1);
            due("log: no LIMIT left", y.log(0), 0);
        });
        on(20, "else OPENS the first BOOK behind which it could OPEN one of its LIST that it has not READ (as then SETTLED)", () -> {
            BesideAnother x = books("1", "1", "1", "b|c");
            x.reader(0, 8);
            x.hours(1);
            due("log: OPEN b", x.log(0), 41);
            // c SETTLES shut behind a: then b MAY be there
            BesideAnother y = books("1", "!c|n<1", "!a");
            y.reader(0, 2);
            make(y, 2);
            y.hours(2);
            due("log: OPEN a", y.log(1), 40);
            due("log: OPEN b", y.log(0), 41);
            // with ROOM for one only b would be there
            BesideAnother z = books("1", "a");
            z.reader(0, 2);
            z.set(1, 0, 1);
            z.hours(1);
            due("log: no ROOM behind it", z.log(0), 0);
        });
        on(20, "else SHUTS the first BOOK open on its TABLE behind which it could (as then SETTLED)", () -> {
            BesideAnother x = free(4);
            x.reader(0, 8);
            x.set(1, 0, 2);
            make(x, OPEN1, 1, 2);
            x.hours(1);
            due("log: SHUT b, for there was no ROOM", x.log(0), 61);
            due("open(0)", x.open(0), 4);
            // b SETTLES shut behind a: then c MAY be there
            BesideAnother y = books("1", "a", "!b");
            y.reader(0, 4);
            make(y, 0, 1);
            y.hours(1);
            due("log: SHUT a", y.log(0), 60);
            // neither alone makes ROOM
            BesideAnother z = free(3);
            z.reader(0, 4);
            make(z, 0, 1);
            z.set(1, 0, 1);
            z.hours(1);
            due("log: no ROOM behind it", z.log(0), 0);
        });
        on(20, "else does nothing", () -> {
            BesideAnother x = books("0", "1");
            x.reader(0, 1);
            x.reader(0, 0);
            make(x, 1);
            row(x, "hours(1)", x.hours(1), 1, 1, 2);
            due("log", x.log(1), 0);
            due("log", x.log(0), 100);
            due("open(0)", x.open(0), 2);
        });
    }

    private static void logs() {
        on(21, "the last 60 are kept", () -> {
            BesideAnother x = free(1);
            x.reader(0, 1);
            for (int i = 1; i < 6; i++) {
                x.reader(0, 0);
            }
            for (int i = 0; i < 9; i++) {
                x.hours(1);
            }
            due("THE LOG", x.count(4), 54);
            due("log(53)", x.log(53), 40);
            due("log(54)", x.log(54), -2);
            x.hours(1);
            due("THE LOG", x.count(4), 60);
            due("log(59)", x.log(59), 40);
            due("log(60)", x.log(60), -2);
            x.hours(1);
            due("THE LOG", x.count(4), 60);
            due("log(59): of the second HOUR", x.log(59), 20);
            due("log(53): of the third", x.log(53), 0);
            due("log(0)", x.log(0), 500);
            due("log(60)", x.log(60), -2);
        });
        on(21, "from the last one back (0 ..)", () -> {
            BesideAnother x = free(1);
            x.reader(0, 1);
            x.reader(1, 0);
            x.hours(2);
            due("log(0)", x.log(0), 100);
            due("log(1)", x.log(1), 20);
            due("log(2)", x.log(2), 100);
            due("log(3)", x.log(3), 40);
        });
        on(21, "-2: there is none; NONE: k below 0.", () -> {
            BesideAnother x = free(1);
            still(x, "log(0) of none", -2, () -> x.log(0));
            x.reader(0, 1);
            x.hours(1);
            still(x, "log(1) of one", -2, () -> x.log(1));
            still(x, "log(60)", -2, () -> x.log(60));
            still(x, "log of the most", -2, () -> x.log(MAX));
            still(x, "log(-1)", NONE, () -> x.log(-1));
            still(x, "log of the least", NONE, () -> x.log(MIN));
            due("log(0)", x.log(0), 40);
        });
        on(21, "and the BOOK (0 for nothing)", () -> {
            BesideAnother x = free(12);
            x.reader(0, 0);
            x.reader(0, 1 << 11);
            for (int i = 2; i < 6; i++) {
                x.reader(0, i == 5 ? 1 << 10 : 0);
            }
            x.hours(1);
            due("log: nothing, the last READER but one", x.log(1), 400);
            due("log: OPEN k, the last READER", x.log(0), 550);
            due("log: OPEN l", x.log(4), 151);
            due("log: nothing, the first READER", x.log(5), 0);
        });
    }

    private static void orders() {
        on(22, "the ROW: READERS in order. How many.", () -> {
            BesideAnother x = free(1);
            x.can();
            row(x, "without READERS", x.order(), 0);
            for (int i = 0; i < 6; i++) {
                x.reader(i % 3, 0);
            }
            Telling.rule(x, "t");
            row(x, "six", x.order(), 6, 2, 5, 1, 4, 0, 3);
        });
        on(22, "the greater by THE RULE first, of equal ones the lesser number", () -> {
            BesideAnother x = free(1);
            x.reader(2, 0);
            x.reader(0, 0);
            x.reader(2, 0);
            x.reader(1, 0);
            Telling.rule(x, "1-t");
            row(x, "1, 0, -1, -1", x.order(), 4, 1, 3, 0, 2);
            Telling.rule(x, "9");
            row(x, "all equal", x.order(), 4, 0, 1, 2, 3);
        });
    }

    private static void rings() {
        on(23, "the shortest ring of them (at least two)", () -> {
            // 0 waits for 1, 1 for 2 and 4, 2 for 0, 3 for 2 and 4, 4 for 1 and 3
            BesideAnother x = free(3);
            make(x, 0, OPEN1 + 1, OPEN2 + 2);
            x.reader(0, 2);
            due("one waits for nobody", x.ring(), 0);
            x.reader(1, 4);
            due("two, but no ring", x.ring(), 0);
            x.reader(2, 1);
            row(x, "three", x.ring(), 3, 0, 1, 2);
            x.reader(1, 4);
            x.reader(2, 2);
            row(x, "two of five", x.ring(), 2, 1, 4);
        });
        on(23, "another one than its own", () -> {
            BesideAnother x = free(2);
            make(x, 0, 1);
            x.reader(0, 1);
            x.reader(0, 2);
            due("each has its BOOK on its own TABLE", x.ring(), 0);
            x.sit(1, 1);
            due("one is elsewhere", x.ring(), 0);
            make(x, HAND1);
            row(x, "each has its BOOK where the other sits", x.ring(), 2, 0, 1);
        });
        on(23, "0: none (the ROW stays)", () -> {
            BesideAnother x = free(2);
            x.can();
            still(x, "without READERS", 0, () -> x.ring());
            x.reader(0, 2);
            x.reader(1, 1);
            still(x, "with nothing open", 0, () -> x.ring());
            make(x, 0, OPEN1 + 1);
            row(x, "a ring", x.ring(), 2, 0, 1);
            make(x, SHUT);
            still(x, "one waits no more", 0, () -> x.ring());
        });
        on(23, "of as short the least row", () -> {
            // 0 and 1 wait for 2 and 3, and the other way
            BesideAnother x = free(2);
            make(x, 0, OPEN1 + 1);
            x.reader(0, 2);
            x.reader(0, 2);
            x.reader(1, 1);
            x.reader(1, 1);
            row(x, "four of as short", x.ring(), 2, 0, 2);
            x.sit(0, 2);
            row(x, "two of as short", x.ring(), 2, 1, 2);
        });
        on(23, "from the least one on, each ahead of whom it waits for", () -> {
            BesideAnother x = free(3);
            make(x, 0, OPEN1 + 1, OPEN2 + 2);
            x.reader(2, 1);
            x.reader(1, 4);
            x.reader(0, 2);
            row(x, "three", x.ring(), 3, 0, 2, 1);
        });
    }

    // ---------------------------------------------------------------- what one book needs: promises 24 to 27

    private static void whatOneBookNeeds() {
        needed();
        fewest();
        knots();
    }

    /** Refused by needs(), bars(), least(): none such BOOK or TABLE. */
    private static int[][] noneSuch() {
        return new int[][] {{2, 0}, {11, 0}, {12, 0}, {-1, 0}, {MIN, 0}, {MAX, 0}, {0, 3}, {0, -1}, {0, MIN}, {0, MAX}};
    }

    private static void needed() {
        on(24, "all others, if it never MAY", () -> {
            BesideAnother x = books("0");
            due("alone", x.needs(0, 0), 0);
            Telling.book(x, 12, "1");
            Telling.book(x, 12, "1");
            due("two others", x.needs(0, 0), 6);
            due("one that MAY", x.needs(1, 0), 0);
            BesideAnother y = free(12);
            Telling.book(y, 4, "t=1");
            due("eleven others", y.needs(4, 0), 4095 - 16);
            due("where it MAY", y.needs(4, 1), 0);
        });
        on(24, "that are in each such set by which a BOOK MAY be there", () -> {
            BesideAnother x = books("1", "a", "a&b", "a|b", "a&b|a&c");
            due("needs none", x.needs(0, 0), 0);
            due("needs one", x.needs(1, 0), 1);
            due("needs two", x.needs(2, 0), 3);
            due("either does", x.needs(3, 0), 0);
            due("one of them in each", x.needs(4, 0), 1);
        });
        on(24, "by sets of others that there are", () -> {
            BesideAnother x = books("l|b", "1", "a|c");
            due("l is not there", x.needs(0, 0), 2);
            due("c itself is no other", x.needs(2, 0), 1);
        });
        on(24, "as many as ROOM less 1 at most", () -> {
            BesideAnother x = books("b&c&d|e", "1", "1", "1", "1");
            due("ROOM 3", x.needs(0, 0), 16);
            x.set(1, 0, 4);
            due("ROOM 4", x.needs(0, 0), 0);
            due("ROOM 3 elsewhere", x.needs(0, 1), 16);
            x.set(1, 0, 2);
            due("ROOM 2", x.needs(0, 0), 16);
            x.set(1, 0, 1);
            due("ROOM 1", x.needs(0, 0), 30);
        });
        on(24, "NONE: none such.", () -> {
            for (int[] n : noneSuch()) {
                BesideAnother x = free(2);
                still(x, "needs(" + n[0] + ", " + n[1] + ")", NONE, () -> x.needs(n[0], n[1]));
            }
        });
        on(25, "Other BOOKS (bits) that are in no such set by which it MAY be there.", () -> {
            BesideAnother x = books("0", "!c", "1", "n<1");
            due("it never MAY: all others", x.bars(0, 0), 14);
            due("one", x.bars(1, 0), 4);
            due("none", x.bars(2, 0), 0);
            due("all others", x.bars(3, 0), 7);
            x.set(1, 0, 1);
            due("no ROOM for others", x.bars(2, 0), 11);
            x.set(1, 0, 2);
            due("ROOM for one other", x.bars(2, 0), 0);
            due("alone", books("0").bars(0, 0), 0);
        });
        on(25, "NONE: none such.", () -> {
            for (int[] n : noneSuch()) {
                BesideAnother x = free(2);
                still(x, "bars(" + n[0] + ", " + n[1] + ")", NONE, () -> x.bars(n[0], n[1]));
            }
        });
    }

    private static void fewest() {
        on(26, "The fewest BOOKS of such a set by which it MAY be there", () -> {
            BesideAnother x = books("1", "n=5", "1", "1", "1", "1", "n>1", "1");
            row(x, "none", x.least(0, 0), 0, 0, 1);
            row(x, "two", x.least(6, 0), 2, 3, 21);
            due("five with ROOM for 2 others", x.least(1, 0), -2);
            x.set(1, 0, 5);
            due("five with ROOM for 4 others", x.least(1, 0), -2);
            x.set(1, 0, 6);
            row(x, "five with ROOM for 5 others", x.least(1, 0), 5, 1 + 4 + 8 + 16 + 32, 21);
            x.set(1, 0, 1);
            row(x, "none with ROOM for none", x.least(0, 0), 0, 0, 1);
            due("two with ROOM for none", x.least(6, 0), -2);
        });
        on(26, "of as few the least", () -> {
            BesideAnother x = books("b&c|d&e", "c|d", "1", "1", "1");
            row(x, "b, c ahead of d, e", x.least(0, 0), 2, 6, 2);
            row(x, "c ahead of d", x.least(1, 0), 1, 4, 2);
            Telling.book(x, 0, "b&c|d");
            row(x, "fewer, though not the least bits", x.least(0, 0), 1, 8, 1);
        });
        on(26, "-2: none does; NONE: none such.", () -> {
            for (int[] n : noneSuch()) {
                BesideAnother x = free(2);
                x.can();
                still(x, "least(" + n[0] + ", " + n[1] + ")", NONE, () -> x.least(n[0], n[1]));
            }
            BesideAnother x = books("0", "b", "a&c&d", "1");
            x.can();
            still(x, "it never MAY", -2, () -> x.least(0, 0));
            still(x, "only beside itself", -2, () -> x.least(1, 0));
            still(x, "no ROOM for so many", -2, () -> x.least(2, 0));
        });
    }

    private static void knots() {
        on(27, "the shortest ring of BOOKS each of which needs() the next one on a TABLE", () -> {
            BesideAnother x = books("b", "c", "a", "e", "d");
            row(x, "two, not three", x.knot(0), 2, 3, 4);
            Telling.book(x, 4, "1");
            row(x, "three", x.knot(0), 3, 0, 1, 2);
            BesideAnother y = books("b", "c", "d", "e", "f", "g", "h", "i", "j", "k", "l", "a");
            row(y, "all twelve", y.knot(0), 12, 0, 1, 2, 3, 4, 5, 6, 7, 8, 9, 10, 11);
        });
        on(27, "(one alone, if it never MAY)", () -> {
            BesideAnother x = books("1", "0", "0");
            row(x, "one of two", x.knot(0), 1, 1);
            BesideAnother y = books("b&c&d", "1", "1", "a");
            row(y, "no ROOM for so many", y.knot(0), 1, 0);
            y.set(1, 0, 4);
            row(y, "with ROOM for them", y.knot(0), 2, 0, 3);
            BesideAnother z = books("0");
            row(z, "the only one", z.knot(2), 1, 0);
        });
        on(27, "0: none (the ROW stays)", () -> {
            BesideAnother none = new BesideAnother();
            still(none, "knot without BOOKS", 0, () -> none.knot(0));
            BesideAnother x = books("1", "a", "b");
            x.can();
            still(x, "knot", 0, () -> x.knot(0));
        });
        on(27, "of as short the least row", () -> {
            BesideAnother x = books("c", "d", "a", "b");
            row(x, "from a, not from b", x.knot(0), 2, 0, 2);
            BesideAnother y = books("b&c", "a", "a");
            row(y, "to b, not to c", y.knot(0), 2, 0, 1);
        });
        on(27, "NONE: another TABLE.", () -> {
            for (int table : new int[] {3, -1, MIN, MAX}) {
                BesideAnother x = books("b", "a");
                x.can();
                still(x, "knot(" + table + ")", NONE, () -> x.knot(table));
            }
        });
    }

    // ---------------------------------------------------------------- one table: promises 28 to 33

    private static void oneTable() {
        holding();
        coming();
        together();
        freeing();
        keeping();
        finishing();
    }

    private static void holding() {
        on(28, "(as many as there is ROOM for at most)", () -> {
            BesideAnother x = free(3);
            row(x, "ROOM 3", x.hold(0), 8, 7);
            x.set(1, 0, 2);
            row(x, "ROOM 2", x.hold(0), 7, 3);
            x.set(1, 0, 1);
            row(x, "ROOM 1", x.hold(0), 4, 1);
            BesideAnother y = free(12);
            y.set(1, 2, 6);
            row(y, "twelve, ROOM 6", y.hold(2), 2510, 63);
            BesideAnother none = new BesideAnother();
            row(none, "without BOOKS", none.hold(0), 1, 0);
        });
        on(28, "(each MAY be there by all of it)", () -> {
            BesideAnother x = books("b", "a", "c", "n<1");
            // nothing, ab, c, abc: though none of a, b, c can come, and d, which can, does not stay
            row(x, "hold", x.hold(0), 4, 7);
        });
        on(28, "(of as many the least)", () -> {
            BesideAnother x = books("1", "!a", "1");
            // nothing, a, b, c, ac, bc
            row(x, "ac, not bc", x.hold(0), 6, 5);
            BesideAnother y = books("0", "n<2", "n<2");
            row(y, "b, not c", y.hold(0), 3, 2);
        });
        on(28, "NONE: another TABLE.", () -> {
            for (int table : new int[] {3, -1, MIN, MAX}) {
                BesideAnother x = free(2);
                x.can();
                still(x, "hold(" + table + ")", NONE, () -> x.hold(table));
            }
        });
    }

    private static void coming() {
        on(29, "Sets of BOOKS that can come to be open on a TABLE: how many", () -> {
            BesideAnother none = new BesideAnother();
            row(none, "without BOOKS", none.comes(0), 1, 0, 0);
            BesideAnother never = books("0", "b");
            row(never, "nothing but nothing", never.comes(0), 1, 0, 0);
            BesideAnother x = free(12);
            x.set(1, 2, 6);
            row(x, "twelve, ROOM 6", x.comes(2), 2510, 4095, 6);
            BesideAnother y = books("1", "a", "b", "c");
            row(y, "ROOM 3", y.comes(0), 4, 7, 3);
        });
        on(29, "as if nothing were open anywhere, ROOM as it is; OPEN and SHUT", () -> {
            BesideAnother x = books("t=0", "1", "a");
            make(x, 0, 1, 2);
            row(x, "TABLE 0", x.comes(0), 6, 7, 3);
            row(x, "TABLE 1: a can't be handed there", x.comes(1), 2, 2, 1);
            x.set(1, 0, 1);
            row(x, "ROOM 1", x.comes(0), 3, 3, 1);
            due("open(0)", x.open(0), 7);
        });
        on(29, "LIMITS do not matter but for BOOKS that have none left now", () -> {
            BesideAnother x = free(2);
            x.set(0, 0, 1);
            row(x, "one left", x.comes(0), 4, 3, 2);
            make(x, 0);
            row(x, "none left", x.comes(0), 2, 2, 1);
            x.set(0, 1, 0);
            row(x, "LIMIT 0", x.comes(0), 1, 0, 0);
            x.set(0, 0, 2);
            row(x, "one left again", x.comes(0), 2, 1, 1);
        });
        on(29, "NONE: another TABLE.", () -> {
            for (int table : new int[] {3, -1, MIN, MAX}) {
                BesideAnother x = free(2);
                x.can();
                still(x, "comes(" + table + ")", NONE, () -> x.comes(table));
            }
        });
    }

    /** Each stays beside a neighbour, and there is ROOM for three: a, ab, abc, bc, bcd, cd, cde, de, def, ef, efg. */
    private static BesideAnother caterpillar() {
        return books("t=0", "t=0&(a|c)", "t=0&(b|d)", "t=0&(c|e)", "t=0&(d|f)", "t=0&(e|g)", "t=0&f");
    }

    /** One neighbour more, and ROOM for five: abcde, bcde, bcdef, def (c's SHUT takes b with it), defg, defgh. */
    private static void lengthen(BesideAnother x) {
        x.set(1, 0, 5);
        Telling.book(x, 6, "t=0&(f|h)");
        Telling.book(x, 12, "t=0&g");
    }

    private static void together() {
        on(30, "The fewest ACTS by which BOOKS told as bits come to be open on a TABLE together (others may be, too)", () -> {
            BesideAnother x = books("1", "a", "!a&b");
            row(x, "none of them", x.together(0, 0), 0);
            row(x, "b, beside a", x.together(0, 2), 2, 0, 1);
            row(x, "a and b", x.together(0, 3), 2, 0, 1);
            make(x, 0, 1);
            row(x, "as if nothing were open", x.together(0, 2), 2, 0, 1);
            BesideAnother none = new BesideAnother();
            row(none, "without BOOKS", none.together(0, 0), 0);
        });
        on(30, "ACTS, the first 10", () -> {
            BesideAnother x = caterpillar();
            row(x, "nine", x.together(0, 32), 9, 0, 1, 2, 60, 3, 61, 4, 62, 5);
            row(x, "eleven", x.together(0, 64), 11, 0, 1, 2, 60, 3, 61, 4, 62, 5, 63);
            lengthen(x);
            row(x, "ten", x.together(0, 128), 10, 0, 1, 2, 3, 4, 60, 5, 62, 6, 7);
        });
        on(30, "of as few the least row", () -> {
            BesideAnother x = books("1", "1", "a|b", "a");
            row(x, "a ahead of b", x.together(0, 4), 2, 0, 2);
            row(x, "from the first number on", x.together(0, 3), 2, 0, 1);
            row(x, "from the first number on", x.together(1, 12), 3, 20, 22, 23);
        });
        on(30, "-2: they can't; NONE: others.", () -> {
            int[][] others = {{3, 1}, {-1, 1}, {MIN, 0}, {MAX, 0}, {0, 4}, {0, 1 << 12}, {0, -1}, {0, MIN}, {0, MAX}};
            for (int[] o : others) {
                BesideAnother x = free(2);
                x.can();
                still(x, "together(" + o[0] + ", " + o[1] + ")", NONE, () -> x.together(o[0], o[1]));
            }
            BesideAnother x = books("1", "!a", "0");
            x.can();
            still(x, "never", -2, () -> x.together(0, 4));
            x.set(1, 0, 1);
            still(x, "no ROOM for both", -2, () -> x.together(0, 3));
            still(x, "b SETTLES shut beside a", -2, () -> x.together(1, 3));
        });
    }

    private static void freeing() {
        on(31, "of equal ones the first", () -> {
            BesideAnother x = free(3);
            row(x, "all equal", x.frees(0), 0, 2, 6);
            BesideAnother y = books("1", "1", "b", "b");
            // a lets b; b lets a, c, d; c and d let a, b
            row(y, "the most", y.frees(0), 1, 3, 13);
            BesideAnother z = books("n<1", "n<1");
            row(z, "none lets any", z.frees(0), 0, 0, 0);
        });
        on(31, "(whether it MAY or not; it does not SETTLE till the next ACT)", () -> {
            BesideAnother x = books("1", "c", "0", "c&!a");
            // a lets none; b and d let a; c, which never MAY be there, lets a, b, d
            row(x, "frees", x.frees(0), 2, 3, 11);
            x.set(0, 2, 0);
            row(x, "nor has it to have LIMIT left", x.frees(0), 2, 3, 11);
            x.set(0, 0, 0);
            row(x, "but they have", x.frees(0), 2, 2, 10);
        });
        on(31, "as if nothing were open anywhere, ROOM as it is", () -> {
            BesideAnother x = free(3);
            make(x, 0, 1, 2);
            row(x, "a full TABLE", x.frees(0), 0, 2, 6);
            x.set(1, 0, 2);
            row(x, "ROOM for any one of them", x.frees(0), 0, 2, 6);
            x.set(1, 0, 1);
            row(x, "ROOM for no other", x.frees(0), 0, 0, 0);
        });
        on(31, "-2: no BOOKS; NONE: another TABLE.", () -> {
            BesideAnother none = new BesideAnother();
            for (int table = 0; table < 3; table++) {
                due("frees without BOOKS", none.frees(table), -2);
            }
            due("the ROW", none.count(5), 0);
            for (int table : new int[] {3, -1, MIN, MAX}) {
                BesideAnother x = free(1);
                x.can();
                still(x, "frees(" + table + ")", NONE, () -> x.frees(table));
            }
        });
    }

    private static void keeping() {
        on(32, "The fewest BOOKS that have to be open on a TABLE at first", () -> {
            BesideAnother x = books("1", "b|c", "b");
            row(x, "for none: none", x.keeps(0, 0), 0, 0);
            row(x, "a can come: none", x.keeps(0, 1), 0, 0);
            row(x, "b", x.keeps(0, 2), 1, 2);
            row(x, "all", x.keeps(0, 7), 1, 2);
            BesideAnother y = books("b", "a", "c", "a&b|c");
            row(y, "c, not a and b", y.keeps(0, 8), 1, 4);
            BesideAnother none = new BesideAnother();
            row(none, "without BOOKS", none.keeps(0, 0), 0, 0);
        });
        on(32, "(whether they MAY or not; then it SETTLES)", () -> {
            BesideAnother x = books("0", "a", "a|c");
            x.can();
            still(x, "a is there at first, but SETTLES shut", -2, () -> x.keeps(0, 1));
            still(x, "so is b, which goes with it", -2, () -> x.keeps(0, 2));
            row(x, "c stays by itself", x.keeps(0, 4), 1, 4);
            // a is there with c alone, though it could not be OPENED
            BesideAnother y = books("c", "0", "a");
            row(y, "a and c hold each other", y.keeps(0, 1), 2, 5);
            BesideAnother z = free(1);
            z.set(0, 0, 0);
            row(z, "a has no LIMIT left", z.keeps(0, 1), 1, 1);
        });
        on(32, "no more than there is ROOM for", () -> {
            BesideAnother x = books("b", "c", "a");
            row(x, "ROOM 3", x.keeps(1, 1), 3, 7);
            x.set(1, 1, 2);
            due("ROOM 2", x.keeps(1, 1), -2);
            x.set(1, 1, 4);
            row(x, "ROOM 4", x.keeps(1, 1), 3, 7);
        });
        on(32, "so that each of those told as bits is open on it then, or can come to be", () -> {
            BesideAnother x = books("!b", "!a", "c&!a");
            row(x, "a and b, though not together", x.keeps(0, 3), 0, 0);
            row(x, "c, which has to be there", x.keeps(0, 4), 1, 4);
            row(x, "all, though a makes c go", x.keeps(0, 7), 1, 4);
        });
        on(32, "of as few the least", () -> {
            BesideAnother x = books("a", "b", "a|b");
            row(x, "a, not b", x.keeps(0, 4), 1, 1);
            BesideAnother y = books("b", "a", "d", "c", "a&b|c&d");
            row(y, "a and b, not c and d", y.keeps(0, 16), 2, 3);
        });
        on(32, "-2: none do; NONE: others.", () -> {
            int[][] others = {{3, 1}, {-1, 1}, {MIN, 0}, {MAX, 0}, {0, 4}, {0, 1 << 12}, {0, -1}, {0, MIN}, {0, MAX}};
            for (int[] o : others) {
                BesideAnother x = free(2);
                x.can();
                still(x, "keeps(" + o[0] + ", " + o[1] + ")", NONE, () -> x.keeps(o[0], o[1]));
            }
            BesideAnother x = books("0", "1");
            x.can();
            still(x, "never", -2, () -> x.keeps(0, 1));
            still(x, "one of them never", -2, () -> x.keeps(0, 3));
        });
    }

    private static void finishing() {
        on(33, "1 (the ROW is empty); 0: the ROW: BOOKS (bits) that can't.", () -> {
            BesideAnother x = books("1", "!a", "0", "t=1");
            x.reader(0, 3);
            x.reader(2, 2 + 4 + 8);
            x.can();
            row(x, "a and b, though not together", x.finish(0, 1), 1);
            row(x, "c and d can't", x.finish(0, 2), 0, 12);
            row(x, "c can't", x.finish(1, 3), 0, 4);
            row(x, "no READERS", x.finish(0, 0), 1);
            make(x, 0);
            x.set(0, 0, 1);
            row(x, "a has no LIMIT left", x.finish(0, 1), 0, 1);
            x.read(0, 0);
            row(x, "a is READ", x.finish(0, 1), 1);
            BesideAnother none = new BesideAnother();
            row(none, "without READERS", none.finish(0, 0), 1);
        });
        on(33, "NONE: others.", () -> {
            int[][] others = {{3, 1}, {-1, 1}, {MIN, 0}, {MAX, 0}, {0, 4}, {0, 64}, {0, -1}, {0, MIN}, {0, MAX}};
            for (int[] o : others) {
                BesideAnother x = free(1);
                x.reader(0, 1);
                x.reader(0, 1);
                x.can();
                still(x, "finish(" + o[0] + ", " + o[1] + ")", NONE, () -> x.finish(o[0], o[1]));
            }
            BesideAnother x = free(1);
            for (int i = 0; i < 6; i++) {
                x.reader(0, 1);
            }
            due("all six", x.finish(0, 63), 1);
            due("a seventh", x.finish(0, 127), NONE);
        });
    }

    // ---------------------------------------------------------------- all tables: promises 34 to 38

    private static void allTables() {
        reaching();
        soonest();
        till();
        losing();
        freedom();
    }

    /** Just 5000 states that can come, from which nothing is lost, or 5001. */
    private static BesideAnother states(boolean oneMore) {
        // a .. f are anywhere: 4096
        BesideAnother x = free(6);
        for (int table = 0; table < 3; table++) {
            x.set(1, table, 6);
        }
        // g beside just a, b, c on 0: 27 of the others; h beside just d, e, f on 1 (or 2): 27 (54); both: 1 (2)
        Telling.book(x, 12, "t=0&a&b&c&!(d|e|f|i|j|k|l)");
        Telling.book(x, 12, oneMore ? "t>0&d&e&f&!(a|b|c)" : "t=1&d&e&f&!(a|b|c)");
        // i beside just one of d, e, f: 3 * 243; j beside just a, d: 81
        Telling.book(x, 12, "t=0&d+e+f=1&!(a|b|c|g|j|k|l)");
        Telling.book(x, 12, "t=0&a&d&!(b|c|e|f|g|i|k|l)");
        // k beside just a, d, e, and perhaps b: 27 + 9 (or surely b: 9); l beside a .. e: 3
        Telling.book(x, 12, oneMore ? "t=0&a&b&d&e&!(c|f|g|i|j|l)" : "t=0&a&d&e&!(c|f|g|i|j|l)");
        Telling.book(x, 12, "t=0&a&b&c&d&e&!(f|g|i|j|k)");
        return x;
    }

    private static void reaching() {
        on(34, "States (what is open where) that can come: how many", () -> {
            BesideAnother none = new BesideAnother();
            row(none, "without BOOKS", none.reach(), 1, 0, 0);
            BesideAnother never = books("0");
            row(never, "nothing but what is", never.reach(), 1, 0, 0);
            BesideAnother x = free(1);
            row(x, "on each TABLE, or on none", x.reach(), 4, 1, 1);
            make(x, OPEN1);
            x.set(0, 0, 0);
            row(x, "by HAND", x.reach(), 4, 1, 1);
            make(x, SHUT);
            row(x, "no LIMIT left", x.reach(), 1, 0, 0);
        });
        on(34, "A search on all TABLES that comes to more than 5000 states answers -3.", () -> {
            BesideAnother x = states(false);
            row(x, "just 5000", x.reach(), 5000, 4095, 8);
            BesideAnother y = states(true);
            y.can();
            still(y, "5001", -3, () -> y.reach());
            // one TABLE never has so many, whatever comes on all
            due("comes", y.comes(0), 64 + 1 + 3 + 1 + 1 + 1);
            due("reach", y.reach(), -3);
            y.set(0, 11, 0);
            due("reach without l", y.reach(), 4998);
        });
        on(34, "In questions about what can come, OPENED and READ stay as they are now (and LIMITS do not matter but for BOOKS"
                + " that have none left now)", () -> {
            BesideAnother x = books("1", "1;1;0", "!a&b");
            x.reader(0, 6);
            x.set(0, 0, 1);
            x.set(0, 1, 1);
            row(x, "each as often as it is asked for", x.free(), 1);
            make(x, 0, SHUT);
            due("a has no LIMIT left", x.reach(), 4 + 3);
            x.set(0, 0, 2);
            due("a has", x.reach(), 4 * 4 + 3 * 3);
        });
    }

    private static void soonest() {
        on(35, "ACTS, the first 10", () -> {
            BesideAnother x = caterpillar();
            row(x, "nine", x.soonest(5), 9, 0, 1, 2, 60, 3, 61, 4, 62, 5);
            row(x, "eleven", x.soonest(6), 11, 0, 1, 2, 60, 3, 61, 4, 62, 5, 63);
            lengthen(x);
            row(x, "ten", x.soonest(7), 10, 0, 1, 2, 3, 4, 60, 5, 62, 6, 7);
        });
        on(35, "of as few the least row", () -> {
            BesideAnother x = books("1", "t>0", "a|b");
            row(x, "a ahead of b, TABLE 0 ahead of 1", x.soonest(2), 2, 0, 2);
            row(x, "the first TABLE where it MAY be", x.soonest(1), 1, 21);
            make(x, OPEN1 + 1);
            row(x, "beside b, by one", x.soonest(2), 1, 22);
            Telling.book(x, 2, "t=2&b|a&t=0");
            row(x, "OPEN ahead of HAND", x.soonest(2), 2, 0, 2);
        });
        on(35, "0: it is; -2: never; -3, if reach() is; NONE: none such.", () -> {
            BesideAnother x = books("1", "0");
            make(x, OPEN2);
            row(x, "it is", x.soonest(0), 0);
            x.can();
            still(x, "never", -2, () -> x.soonest(1));
            for (int book : new int[] {2, 11, 12, -1, 32, MIN, MAX}) {
                BesideAnother y = free(2);
                y.can();
                still(y, "soonest(" + book + ")", NONE, () -> y.soonest(book));
            }
            BesideAnother z = states(true);
            z.can();
            still(z, "reach() is -3", -3, () -> z.soonest(0));
            make(z, 0);
            due("reach() is -3, though it is open", z.soonest(0), -3);
            due("none such, though reach() is -3", z.soonest(12), NONE);
            due("not with 5000", states(false).soonest(11), 6);
        });
    }

    private static void till() {
        on(36, "(just they)", () -> {
            BesideAnother x = books("1", "a", "1");
            make(x, 0, 1);
            row(x, "as it is", x.till(3, 0, 0), 0);
            row(x, "without b", x.till(1, 0, 0), 1, 61);
            row(x, "nothing", x.till(0, 0, 0), 1, 60);
            row(x, "on three TABLES", x.till(4, 1, 0), 2, 2, HAND1);
            x.can();
            still(x, "b alone", -2, () -> x.till(2, 0, 0));
            still(x, "b elsewhere", -2, () -> x.till(1, 2, 0));
        });
        on(36, "likewise", () -> {
            BesideAnother x = caterpillar();
            row(x, "nothing", x.till(0, 0, 0), 0);
            row(x, "ten", x.till(48, 0, 0), 10, 0, 1, 2, 60, 3, 61, 4, 62, 5, 63);
            row(x, "eleven", x.till(112, 0, 0), 11, 0, 1, 2, 60, 3, 61, 4, 62, 5, 63);
            BesideAnother y = free(4);
            row(y, "the least row", y.till(1, 2, 4), 3, 0, 21, 42);
            y.can();
            still(y, "no ROOM for four", -2, () -> y.till(15, 0, 0));
            BesideAnother z = states(true);
            z.can();
            still(z, "reach() is -3", -3, () -> z.till(1, 0, 0));
            due("reach() is -3, though it is so", z.till(0, 0, 0), -3);
            due("not with 5000", states(false).till(1 + 2 + 4 + 8 + 16 + (1 << 11), 32, 0), 7);
        });
        on(36, "NONE: bits of none such, one in two.", () -> {
            int[][] none = {{4, 0, 0}, {0, 4, 0}, {0, 0, 4}, {-1, 0, 0}, {0, MIN, 0}, {0, 0, MAX}, {0, 0, 1 << 12}, {1, 1, 0}, {0, 3, 2}, {1, 2, 3}, {2, 0, 2}};
            for (int[] n : none) {
                BesideAnother x = free(2);
                x.can();
                still(x, "till(" + n[0] + ", " + n[1] + ", " + n[2] + ")", NONE, () -> x.till(n[0], n[1], n[2]));
            }
            BesideAnother x = states(true);
            due("one in two, though reach() is -3", x.till(1, 1, 0), NONE);
            due("none such, though reach() is -3", x.till(4096, 0, 0), NONE);
        });
    }

    private static void losing() {
        on(37, "BOOKS (bits) that are open now, and, once SHUT, can never be open again", () -> {
            BesideAnother x = books("1", "a|c", "b");
            due("nothing is open", x.lost(), 0);
            make(x, 0, 1, 2);
            due("each can again", x.lost(), 0);
            x.set(0, 0, 1);
            due("a has no LIMIT left", x.lost(), 1);
            make(x, SHUT);
            due("b and c hold each other alone", x.lost(), 6);
            make(x, SHUT + 1);
            due("a, which is not open, is not told", x.lost(), 0);
        });
        on(37, "(nor stay so)", () -> {
            BesideAnother x = free(2);
            make(x, 0, OPEN1 + 1);
            x.keep(0);
            Telling.book(x, 0, "!a");
            due("a can be OPENED, but SETTLES shut", x.act(0), 1);
            x.again(0);
            due("a is open, though it MAY not be", x.open(0), 1);
            due("a is lost, b is not", x.lost(), 1);
        });
        on(37, "-3, if one search does so.", () -> {
            BesideAnother x = states(true);
            due("nothing is open: no search", x.lost(), 0);
            make(x, 0);
            x.can();
            still(x, "5001 without a", -3, () -> x.lost());
            BesideAnother y = states(false);
            make(y, 0);
            due("5000", y.lost(), 0);
            // without l there are fewer, but not where a alone is SHUT
            BesideAnother z = states(true);
            z.set(0, 11, 1);
            make(z, 0, 1, 2, 3, 4, 11);
            due("l has no LIMIT left", z.lost(), 2048);
            BesideAnother w = heldStates();
            due("without a: more than 5000", w.lost(), -3);
            make(w, SHUT);
            due("without g: 3634", w.lost(), 64);
        });
    }

    /** a .. f may be anywhere: 3634 states; g, which has no LIMIT left, is open too: with it there are more than 5000. */
    private static BesideAnother heldStates() {
        BesideAnother x = free(7);
        x.set(0, 6, 1);
        make(x, 0, OPEN1 + 6);
        return x;
    }

    private static void freedom() {
        on(38, "1 (the ROW is empty)", () -> {
            BesideAnother none = new BesideAnother();
            row(none, "without BOOKS", none.free(), 1);
            BesideAnother x = books("1", "!a", "0");
            x.can();
            row(x, "a and b, each when the other is SHUT; c never can", x.free(), 1);
            BesideAnother y = states(false);
            row(y, "5000", y.free(), 1);
        });
        on(38, "the fewest ACTS to a state from which some can't", () -> {
            BesideAnother x = books("1", "a|b", "b");
            // b holds itself once a has let it in, and nothing is lost while a has LIMIT left
            make(x, 0, 1);
            row(x, "free", x.free(), 1);
            x.set(0, 0, 1);
            row(x, "a, once SHUT", x.free(), 0, 1, 1);
            make(x, SHUT);
            row(x, "b, and c with it", x.free(), 0, 1, 6);
            // c's SHUT is no loss
            make(x, 2);
            row(x, "b, and c with it", x.free(), 0, 1, 6);
            BesideAnother y = books("a|b", "a|b", "a|b");
            due("nothing comes", y.free(), 1);
            Telling.book(y, 0, "1");
            make(y, 0, 1);
            Telling.book(y, 0, "a|b");
            row(y, "both have to go", y.free(), 0, 2, 7);
        });
        on(38, "of states with as few ACTS that of the least row of ACTS", () -> {
            BesideAnother x = free(2);
            x.set(0, 0, 1);
            x.set(0, 1, 1);
            make(x, 0, OPEN1 + 1);
            row(x, "SHUT a, not b", x.free(), 0, 1, 1);
            BesideAnother y = books("1", "1", "!b");
            y.set(0, 1, 1);
            y.set(0, 2, 1);
            make(y, 2, OPEN1 + 1);
            // HAND b makes c SETTLE shut, but SHUT b is ahead of that
            row(y, "SHUT b", y.free(), 0, 1, 2);
        });
        on(38, "-3.", () -> {
            BesideAnother x = states(true);
            x.can();
            still(x, "5001", -3, () -> x.free());
            x.set(0, 11, 0);
            row(x, "4998", x.free(), 1);
        });
    }

    // ---------------------------------------------------------------- kept: promises 39 to 42

    private static void kept() {
        keepingAll();
        again();
        counting();
    }

    private static void keepingAll() {
        on(39, "are kept under a number 0 .. 2: true. Refused: others.", () -> {
            BesideAnother x = free(2);
            due("keep(0)", x.keep(0), true);
            make(x, 0);
            due("keep(1)", x.keep(1), true);
            make(x, 1);
            due("keep(2)", x.keep(2), true);
            for (int i : new int[] {3, -1, MIN, MAX}) {
                still(x, "keep(" + i + ")", 0, () -> x.keep(i) ? 1 : 0);
            }
            due("again(1)", x.again(1), true);
            due("open(0)", x.open(0), 1);
            due("again(0)", x.again(0), true);
            due("open(0)", x.open(0), 0);
            due("again(2)", x.again(2), true);
            due("open(0)", x.open(0), 3);
            due("kept anew", x.keep(0), true);
            x.again(1);
            x.again(0);
            due("open(0)", x.open(0), 3);
        });
        on(39, "What is open where, OPENED, READ, where READERS sit, HOURS, THE LOG are kept", () -> {
            BesideAnother x = books("1;1;2", "1");
            x.reader(0, 1);
            make(x, OPEN2 + 1);
            x.keep(1);
            x.order();
            String then = told(x);
            x.hours(2);
            make(x, HAND1 + 1);
            x.sit(0, 1);
            due("second CONDITION", x.about(0, 4), 1);
            due("THE LOG", x.log(1), 40);
            x.again(1);
            x.order();
            due("as it was", told(x).equals(then), true);
            due("HOURS", x.count(2), 0);
            due("no LOG", x.log(0), -2);
            x.hours(2);
            x.keep(1);
            x.hours(3);
            x.again(1);
            due("HOURS", x.count(2), 2);
            due("THE LOG", x.count(4), 2);
            due("log(0)", x.log(0), 20);
            due("log(1)", x.log(1), 40);
            due("READ", x.of(0, 2), 1);
            due("by how many", x.about(0, 3), 1);
        });
    }

    private static void again() {
        on(40, "Refused: nothing kept.", () -> {
            BesideAnother x = free(1);
            make(x, 0);
            for (int i : new int[] {0, 1, 2, 3, -1, MIN, MAX}) {
                still(x, "again(" + i + ")", 0, () -> x.again(i) ? 1 : 0);
            }
            x.keep(1);
            due("again(0)", x.again(0), false);
            due("again(2)", x.again(2), false);
            due("again(1)", x.again(1), true);
            due("and again", x.again(1), true);
        });
        on(40, "BOOKS and READERS told since are open nowhere, have OPENED 0, READ none, sit where reader() told", () -> {
            BesideAnother x = new BesideAnother();
            x.keep(0);
            Telling.book(x, 12, "1");
            x.keep(1);
            Telling.book(x, 12, "1");
            x.reader(2, 3);
            x.reader(0, 1);
            make(x, OPEN1, OPEN1 + 1);
            x.sit(0, 1);
            x.sit(1, 1);
            x.read(0, 0);
            x.read(0, 1);
            x.read(1, 0);
            x.set(0, 1, 7);
            x.again(1);
            due("BOOKS", x.count(0), 2);
            due("READERS", x.count(1), 2);
            due("open anywhere", x.count(3), 0);
            due("OPENED of a", x.about(0, 1), 0);
            due("OPENED of b", x.about(1, 1), 0);
            due("LIMIT of b", x.about(1, 0), 7);
            due("READ of a", x.about(0, 3), 0);
            due("READ of b", x.about(1, 3), 0);
            due("READ", x.of(0, 2), 0);
            due("READ", x.of(1, 2), 0);
            due("left", x.of(0, 3), 3);
            due("sits", x.of(0, 0), 2);
            due("sits", x.of(1, 0), 0);
            x.sit(0, 0);
            x.keep(2);
            x.sit(0, 1);
            x.reader(1, 0);
            x.sit(2, 2);
            x.again(2);
            due("sits where it was kept", x.of(0, 0), 0);
            due("sits where reader() told", x.of(2, 0), 1);
            x.again(0);
            due("sits where reader() told", x.of(0, 0), 2);
        });
        on(40, "nothing SETTLES by that", () -> {
            BesideAnother x = free(3);
            make(x, 0, 1, OPEN2 + 2);
            x.keep(0);
            Telling.book(x, 0, "0");
            Telling.book(x, 2, "0");
            due("open anywhere", x.count(3), 2);
            due("again", x.again(0), true);
            due("open(0)", x.open(0), 3);
            due("open(2)", x.open(2), 4);
            due("SHUT b: a SETTLES shut", x.act(SHUT + 1), 1);
            due("open(2)", x.open(2), 4);
        });
    }

    private static void counting() {
        on(41, "NONE for another what.", () -> {
            BesideAnother x = free(1);
            for (int what : new int[] {7, 8, -1, MIN, MAX}) {
                still(x, "count(" + what + ")", NONE, () -> x.count(what));
            }
        });
        on(41, "4: entries of THE LOG that are kept", () -> {
            BesideAnother x = free(1);
            due("none", x.count(4), 0);
            x.hours(1);
            due("without READERS", x.count(4), 0);
            for (int i = 0; i < 6; i++) {
                x.reader(0, 0);
            }
            for (int i = 0; i < 10; i++) {
                x.hours(1);
            }
            due("60", x.count(4), 60);
            x.hours(1);
            due("no more", x.count(4), 60);
        });
        on(41, "3: BOOKS open anywhere (bits)", () -> {
            BesideAnother x = free(12);
            due("none", x.count(3), 0);
            make(x, 11, OPEN1, OPEN2 + 5);
            due("on each TABLE", x.count(3), 2048 + 1 + 32);
        });
        on(41, "5: numbers of the ROW, 6: signs of THE TEXT", () -> {
            BesideAnother x = free(12);
            due("no ROW", x.count(5), 0);
            x.can();
            due("eight", x.count(5), 8);
            Telling.book(x, 0, "b");
            for (int i = 1; i < 12; i++) {
                Telling.book(x, i, i == 11 ? "a" : "" + (char) ('b' + i));
            }
            due("knot", x.knot(0), 12);
            due("twelve", x.count(5), 12);
            x.together(0, 0);
            due("none", x.count(5), 0);
            due("no TEXT", x.count(6), 0);
            for (int i = 0; i < 21; i++) {
                x.sign(0);
            }
            due("80", x.count(6), 80);
            x.end(79);
            due("79", x.count(6), 79);
        });
        on(42, "NoSuchElementException: none such.", () -> {
            BesideAnother x = free(2);
            throwing("row(0) of none", () -> x.row(0));
            x.can();
            due("row(5)", x.row(5), 41);
            for (int i : new int[] {6, 7, 12, -1, MIN, MAX}) {
                throwing("row(" + i + ") of six", () -> x.row(i));
            }
            x.hold(0);
            due("row(0)", x.row(0), 3);
            throwing("row(1) of one", () -> x.row(1));
            x.together(0, 0);
            throwing("row(0) of none", () -> x.row(0));
        });
    }
}
