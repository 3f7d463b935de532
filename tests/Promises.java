import java.util.Arrays;
import java.util.NoSuchElementException;

/** Each promise of the document with answers worked out by hand: ordinary inputs, edges, wrong inputs. */
public final class Promises {

    private static int wrong = 0;
    private static String part = "";

    // ---------------------------------------------------------------- what the tests are told with

    private static void due(String call, long got, long want) {
        if (got != want) {
            wrong++;
            System.out.println(part + ": " + call + " answered " + got + ", due is " + want);
        }
    }

    private static void due(String call, boolean got, boolean want) {
        due(call, got ? 1 : 0, want ? 1 : 0);
    }

    /** The answer, and the whole ROW behind it. */
    private static void due(BesideAnother x, String call, long got, long want, int... row) {
        due(call, got, want);
        due("count(5) behind " + call, x.count(5), row.length);
        for (int i = 0; i < row.length && i < x.count(5); i++) {
            due("row(" + i + ") behind " + call, x.row(i), row[i]);
        }
        throwing("row(" + row.length + ") behind " + call, () -> x.row(row.length));
        throwing("row(-1) behind " + call, () -> x.row(-1));
    }

    private interface Call {
        long answer();
    }

    private static void throwing(String call, Call asked) {
        try {
            long got = asked.answer();
            wrong++;
            System.out.println(part + ": " + call + " answered " + got + ", due is NoSuchElementException");
        } catch (NoSuchElementException e) {
            // as is due
        }
    }

    private static BesideAnother books(String... texts) {
        BesideAnother x = new BesideAnother();
        for (int i = 0; i < texts.length; i++) {
            due("book " + texts[i], Telling.book(x, 12, texts[i]), i);
        }
        return x;
    }

    private static void acts(BesideAnother x, int... acts) {
        for (int act : acts) {
            if (x.act(act) < 0) {
                wrong++;
                System.out.println(part + ": act(" + act + ") is refused with " + x.why(act));
            }
        }
    }

    private static String many(String sign, int times) {
        StringBuilder out = new StringBuilder();
        for (int i = 0; i < times; i++) {
            out.append(sign);
        }
        return out.toString();
    }

    private static final int OPEN1 = 20;
    private static final int OPEN2 = 40;
    private static final int SHUT = 60;
    private static final int HAND0 = 80;
    private static final int HAND1 = 100;
    private static final int HAND2 = 120;

    public static void main(String[] args) {
        part = "1 a new object";
        newObject();
        part = "2 sign, 3 end";
        signs();
        part = "4 book";
        bookTexts();
        part = "4 book: what its EXPRESSIONS are worth";
        worths();
        part = "4 book: told anew";
        toldAnew();
        part = "5 rule, 22 order";
        ruleAndOrder();
        part = "6 set";
        set();
        part = "7 sheet";
        sheet();
        part = "8 about";
        about();
        part = "9 open, 10 value";
        openAndValue();
        part = "11 act, 12 why";
        act();
        part = "11 act: SETTLES";
        settles();
        part = "13 can";
        can();
        part = "14 night";
        night();
        part = "15 judge";
        judge();
        part = "16 reader, 17 sit, 18 read, 19 of";
        readers();
        part = "20 hours, 21 log";
        hours();
        part = "20 hours: steps";
        steps();
        part = "21 log: the last 60";
        log();
        part = "23 ring";
        ring();
        part = "24 needs, 25 bars, 26 least";
        needs();
        part = "27 knot";
        knot();
        part = "28 hold";
        hold();
        part = "29 comes, 30 together";
        comes();
        part = "31 frees";
        frees();
        part = "32 keeps";
        keeps();
        part = "33 finish";
        finish();
        part = "34 reach, 35 soonest, 36 till";
        reach();
        part = "34 .. 38: more than 5000 states";
        tooMany();
        part = "37 lost, 38 free";
        lostAndFree();
        part = "39 keep, 40 again";
        keepAndAgain();
        part = "41 count, 42 row";
        counts();
        System.out.println(wrong == 0 ? "all promises are kept" : wrong + " answers are not as due");
        if (wrong != 0) {
            System.exit(1);
        }
    }

    private static void newObject() {
        BesideAnother x = new BesideAnother();
        due("NONE", BesideAnother.NONE, -1);
        for (int i = 0; i < 7; i++) {
            due("count(" + i + ")", x.count(i), 0);
        }
        for (int t = 0; t < 3; t++) {
            due("open", x.open(t), 0);
            due("room", x.set(1, t, 3), 3);
        }
        due(x, "order", x.order(), 0);
        due("again", x.again(0), false);
        due("log", x.log(0), -2);
        throwing("row(0)", () -> x.row(0));
    }

    private static void signs() {
        BesideAnother x = new BesideAnother();
        for (int i = 1; i <= 20; i++) {
            due("sign", x.sign(0x31313131), 4 * i);
        }
        due("sign", x.sign(0), -1);
        due("count(6)", x.count(6), 80);
        due("end(81)", x.end(81), false);
        due("end(-1)", x.end(-1), false);
        due("count(6)", x.count(6), 80);
        due("end(80)", x.end(80), true);
        due("end(77)", x.end(77), true);
        due("sign", x.sign(0), -1);
        due("end(78)", x.end(78), false);
        due("end(76)", x.end(76), true);
        due("sign", x.sign(0), 80);
        due("end(0)", x.end(0), true);
        due("count(6)", x.count(6), 0);
        due("end(1)", x.end(1), false);
        // the highest byte comes first
        due("sign", x.sign('1' << 24 | '-' << 16 | '2' << 8 | 0xff), 4);
        due("end(3)", x.end(3), true);
        due("book", x.book(12), 0);
        due("value", x.value(0, 0), -1);
    }

    private static void bookTexts() {
        BesideAnother x = new BesideAnother();
        String[] bad = {
            "", "+", "m", "A", "1+", "1|", "1&", "1<", "!", "(", ")", "()", "(1", "1)", "1 ", "100", "1a", "a1", "nn", "rt",
            "1<2<3", "1<2=3", "1>(2)=3", "1;", "1;0", "1;7", "1;2", "1;2;", "1;12", "1;a;1", "1;2;a;", "1;2;a;3;b", "1;2;1<2<3",
            "(((((1)))))", "!!(!", "-1", "1--1", "1!", "a!b", "1;1;;", ";", "(1;2;a)", "1,2", "(1<2<3)", "1<(2<3<4)", "\u00e91", "1<2|3<4<5",
        };
        int[] at = {
            0, 0, 0, 0, 2, 2, 2, 2, 1, 1, 0, 1, 2, 1, 1, 2, 1, 1, 1, 1,
            3, 3, 5, 2, 2, 2, 3, 4, 3, 2, 5, 5, 7,
            4, 4, 0, 2, 1, 1, 4, 0, 2, 1, 4, 6, 0, 7,
        };
        due("as many", bad.length, at.length);
        for (int i = 0; i < bad.length; i++) {
            due("book " + bad[i], Telling.book(x, 12, bad[i]), -1 - at[i]);
            due("count(6)", x.count(6), 0);
            due("count(0)", x.count(0), 0);
        }
        String sixty = many("1+", 29) + "11";
        due("60 signs", Telling.book(x, 12, sixty), 0);
        due("61 signs", Telling.book(x, 12, sixty + "1"), -61);
        due("62 signs, the first 60 end too early", Telling.book(x, 12, many("1+", 31)), -61);
        due("61 signs, the 60th can't stand there", Telling.book(x, 12, many("1+", 29) + "1)1"), -60);
        due("80 signs, the third can't stand there", Telling.book(x, 12, "1+" + many(")", 78)), -3);
        due("60 signs that end too early", Telling.book(x, 12, many("1+", 30)), -61);
        due("80 of !", Telling.book(x, 12, many("!", 80)), -61);
        due("59 times ! and 0", Telling.book(x, 12, many("!", 59) + "0"), 1);
        due("value", x.value(1, 0), 1);
        // -100 is asked first, and empties THE TEXT too
        for (int i : new int[] {2, 11, 13, -1, Integer.MIN_VALUE, Integer.MAX_VALUE}) {
            due("book(" + i + ")", Telling.book(x, i, "1"), -100);
            due("book(" + i + ")", Telling.book(x, i, "+"), -100);
            due("count(6)", x.count(6), 0);
        }
        for (int i = 2; i < 12; i++) {
            due("book(12)", Telling.book(x, 12, "l;6;n"), i);
        }
        due("book(12) with twelve", Telling.book(x, 12, "1"), -100);
        due("book(12) with twelve", Telling.book(x, 12, "+"), -100);
        due("book(11)", Telling.book(x, 11, "!"), -2);
        due("book(11)", Telling.book(x, 11, "((((1))))"), 11);
    }

    private static void worths() {
        BesideAnother x = books("1", "1", "1", "0");
        acts(x, OPEN1, OPEN1 + 1, OPEN1 + 2);
        String[] told = {
            "7", "07", "99", "a", "d", "l", "n", "r", "t", "n+t-r", "1-2-3", "1-(2-3)", "5-9", "1<2", "2<1", "2<2", "2>1", "1>2", "2=2", "1+1=2",
            "2=1+1", "1<2&3<2", "3&4", "0|5", "0|0", "0&1|1", "1|1&0", "1|(1&0)", "(1|1)&0", "!0", "!5", "!!5", "!1+1", "!(1+1)", "!a<b", "!n=0",
            "a+b+c+d", "1<(2<3)", "(3>2)>1", "n-10", "a&b&c&!d", "1-1|0", "0<1-2", "((((n))))+((n))", "1+2<3+1&1|0", "!!n", "2-1-1|0", "99-99-99",
        };
        int[] worth = {
            7, 7, 99, 1, 0, 0, 3, 0, 1, 4, -4, 2, -4, 1, 0, 0, 1, 0, 1, 1,
            1, 0, 1, 1, 0, 1, 1, 1, 0, 1, 0, 1, 1, 0, 1, 1,
            3, 0, 0, -7, 1, 0, 0, 6, 1, 1, 0, -99,
        };
        due("as many", told.length, worth.length);
        for (int i = 0; i < told.length; i++) {
            due("book " + told[i], Telling.book(x, 3, told[i]), 3);
            due("value of " + told[i], x.value(3, 1), worth[i]);
        }
    }

    private static void toldAnew() {
        BesideAnother x = books("1", "a", "b", "1");
        acts(x, 0, 1, 2, OPEN1 + 3);
        due("set", x.set(0, 1, 7), 99);
        due("book(1) that can't be", Telling.book(x, 1, "!"), -2);
        due("open", x.open(0), 7);
        due("book(1) anew", Telling.book(x, 1, "!a"), 1);
        due("open: b shut, then c", x.open(0), 1);
        due("open(1)", x.open(1), 8);
        due("OPENED stays", x.about(1, 1), 1);
        due("LIMIT stays", x.about(1, 0), 7);
        due("book(3) anew", Telling.book(x, 3, "t=0"), 3);
        due("open(1)", x.open(1), 0);
        due("book(3) anew, shut", Telling.book(x, 3, "t=1;1;0"), 3);
        due("why", x.why(OPEN1 + 3), 0);
        due("why", x.why(OPEN2 + 3), -5);
    }

    private static void ruleAndOrder() {
        BesideAnother x = books("1", "1", "1");
        due("rule", Telling.rule(x, ""), 0);
        due("rule +", Telling.rule(x, "+"), -1);
        due("rule 1;", Telling.rule(x, "1;2;1"), -2);
        due("rule 1<2<3", Telling.rule(x, "1<2<3"), -4);
        due("rule of 40", Telling.rule(x, many("1+", 19) + "11"), 0);
        due("rule of 41", Telling.rule(x, many("1+", 20) + "1"), -41);
        due("rule of 41, of which the 40th can't stand there", Telling.rule(x, many("1+", 19) + "1)1"), -40);
        due("rule of 40 that ends too early", Telling.rule(x, many("1+", 20)), -41);
        due("rule (", Telling.rule(x, "(((((1)))))"), -5);
        due("count(6)", x.count(6), 0);
        Telling.rule(x, "");
        due("reader", x.reader(0, 7), 0);
        due("reader", x.reader(1, 1), 1);
        due("reader", x.reader(2, 1), 2);
        due("reader", x.reader(1, 0), 3);
        due(x, "order", x.order(), 4, 0, 1, 2, 3);
        Telling.rule(x, "t");
        due(x, "order by t", x.order(), 4, 2, 1, 3, 0);
        due("a rule that can't be", Telling.rule(x, "t+"), -3);
        due(x, "order by t still", x.order(), 4, 2, 1, 3, 0);
        Telling.rule(x, "0-t");
        due(x, "order by -t", x.order(), 4, 0, 1, 3, 2);
        acts(x, OPEN1, OPEN1 + 1, 2);
        Telling.rule(x, "n");
        due(x, "order by n", x.order(), 4, 1, 3, 0, 2);
        Telling.rule(x, "c");
        due(x, "order by c", x.order(), 4, 0, 1, 2, 3);
        Telling.rule(x, "b|l");
        due(x, "order by b", x.order(), 4, 1, 3, 0, 2);
        Telling.rule(x, "r");
        due("read", x.read(3, 0), 1);
        due("read", x.read(3, 1), 1);
        due("read", x.read(0, 2), 1);
        due(x, "order by r", x.order(), 4, 3, 0, 1, 2);
        Telling.rule(x, "");
        due(x, "order", x.order(), 4, 0, 1, 2, 3);
        due("count(2)", x.count(2), 0);
    }

    private static void set() {
        BesideAnother x = books("1", "1");
        due("set", x.set(0, 0, 0), 99);
        due("set", x.set(0, 0, 99), 0);
        due("set", x.set(0, 1, 5), 99);
        due("set", x.set(0, 1, 6), 5);
        int[][] others = {{0, 2, 1}, {0, -1, 1}, {0, 0, 100}, {0, 0, -1}, {1, 3, 1}, {1, -1, 1}, {1, 0, 0}, {1, 0, 7}, {2, 0, 1}, {-1, 0, 1}};
        for (int[] o : others) {
            due("set" + Arrays.toString(o), x.set(o[0], o[1], o[2]), -1);
        }
        due("about", x.about(0, 0), 99);
        acts(x, 0, 1);
        due("room", x.set(1, 0, 1), 3);
        due("what is open stays", x.open(0), 3);
        due("room", x.set(1, 0, 6), 1);
        due("room of another", x.set(1, 1, 6), 3);
    }

    private static void sheet() {
        BesideAnother x = books("1", "1", "1");
        due("ints", x.sheet(2, 2, 5, 10), 5 + 15 + 99);
        due("about", x.about(1, 0), 15);
        due("about", x.about(2, 0), 99);
        due("ints put to 0 .. 99", x.sheet(2, 3, -50, 60), 0 + 10 + 70);
        due("ints put to 0 .. 99", x.sheet(2, 3, 50, 60), 50 + 99 + 99);
        due("bytes", x.sheet(0, 3, 256 + 7, 127), 7 + 0 + 5);
        due("bytes", x.sheet(0, 3, 100, 28), 99 + 0 + 0);
        due("bytes", x.sheet(0, 1, -1, 0), 0 + 99 + 99);
        // 8, -32768, -8
        due("shorts", x.sheet(1, 3, 65536 + 8, 32768 - 8), 8 + 0 + 0);
        due("shorts", x.sheet(1, 3, 65536 + 8, 65536 + 300), 8 + 99 + 99);
        due("ints that go round", x.sheet(2, 3, Integer.MAX_VALUE, 10), 99 + 0 + 0);
        due("twelve", x.sheet(2, 12, 1, 0), 3);
        due("none", x.sheet(1, 0, 1, 0), 297);
        x.sheet(2, 3, 4, 0);
        due("below 0", x.sheet(0, -1, 1, 1), -2);
        due("below 0", x.sheet(2, Integer.MIN_VALUE, 1, 1), -2);
        due("another kind", x.sheet(4, -1, 1, 1), -1);
        due("another kind", x.sheet(-1, 1, 1, 1), -1);
        due("above 12", x.sheet(2, 13, 1, 1), -1);
        due("above 12, missing", x.sheet(3, 13, 1, 1), -1);
        due("nothing changes", x.about(0, 0) + x.about(1, 0) + x.about(2, 0), 12);
        due("missing", x.sheet(3, -5, 1, 1), -3);
        due("all 99", x.about(0, 0) + x.about(1, 0) + x.about(2, 0), 297);
        x.sheet(2, 12, 1, 0);
        Telling.book(x, 12, "1");
        due("a BOOK told since", x.about(3, 0), 99);
    }

    private static void about() {
        BesideAnother x = books("1;2;0", "1");
        x.reader(0, 0);
        x.reader(0, 0);
        x.set(0, 0, 4);
        due("OPENED", x.about(0, 1), 0);
        due("TABLE", x.about(0, 2), -1);
        acts(x, OPEN2, SHUT, 0);
        due("LIMIT", x.about(0, 0), 4);
        due("OPENED", x.about(0, 1), 2);
        due("TABLE", x.about(0, 2), 0);
        due("second", x.about(0, 4), 0);
        x.read(0, 0);
        due("READ", x.about(0, 3), 1);
        due("second", x.about(0, 4), 0);
        x.read(1, 0);
        due("READ", x.about(0, 3), 2);
        due("second", x.about(0, 4), 1);
        due("TABLE", x.about(0, 2), -1);
        due("no second", x.about(1, 4), 0);
        throwing("about(2, 0)", () -> x.about(2, 0));
        throwing("about(-1, 0)", () -> x.about(-1, 0));
        throwing("about(0, 5)", () -> x.about(0, 5));
        throwing("about(0, -1)", () -> x.about(0, -1));
    }

    private static void openAndValue() {
        BesideAnother x = books("n+5", "a+n-3", "t");
        due("open(3)", x.open(3), -1);
        due("open(-1)", x.open(-1), -1);
        due("value", x.value(0, 1), 5);
        due("value", x.value(1, 1), -3);
        acts(x, OPEN1);
        due("value with itself", x.value(0, 1), 6);
        due("value", x.value(0, 0), 5);
        due("value", x.value(1, 1), -1);
        due("value", x.value(2, 2), 2);
        acts(x, OPEN1 + 1, OPEN2 + 2);
        due("open(1)", x.open(1), 1);
        due("open(2)", x.open(2), 4);
        due("open(0)", x.open(0), 0);
        throwing("value(3, 0)", () -> x.value(3, 0));
        throwing("value(-1, 0)", () -> x.value(-1, 0));
        throwing("value(0, 3)", () -> x.value(0, 3));
        throwing("value(0, -1)", () -> x.value(0, -1));
    }

    private static void act() {
        BesideAnother x = books("1", "a", "1", "1", "0");
        for (int none : new int[] {-1, 5, 12, 19, 25, 59, 65, 72, 79, 85, 139, 140, Integer.MAX_VALUE, Integer.MIN_VALUE}) {
            due("act(" + none + ")", x.act(none), -1);
            due("why(" + none + ")", x.why(none), -1);
        }
        due("b without a", x.act(1), -5);
        due("SHUT what is not open", x.act(SHUT), -2);
        due("HAND what is not open", x.act(HAND1), -2);
        due("OPEN", x.act(0), 0);
        due("OPENED", x.about(0, 1), 1);
        due("OPEN again", x.act(0), -2);
        due("OPEN elsewhere", x.act(OPEN1), -2);
        due("HAND to its own", x.act(HAND0), -2);
        due("OPEN b", x.act(1), 0);
        due("HAND b away from a", x.act(HAND1 + 1), -5);
        due("OPEN c", x.act(2), 0);
        due("no ROOM", x.act(3), -4);
        due("-4 ahead of -5", x.act(4), -4);
        x.set(0, 3, 0);
        due("-3 ahead of -4", x.act(3), -3);
        due("why", x.why(3), -3);
        x.set(0, 3, 1);
        due("OPEN d on 1", x.act(OPEN1 + 3), 0);
        due("no ROOM to HAND to", x.why(HAND0 + 3), -4);
        x.set(0, 3, 0);
        due("HAND needs no LIMIT", x.act(HAND2 + 3), 0);
        due("OPENED stays", x.about(3, 1), 1);
        due("HAND a, b shuts", x.act(HAND1), 2);
        due("open", x.open(1), 1);
        due("open", x.open(0), 4);
        due("OPEN b beside a", x.act(OPEN1 + 1), 0);
        due("SHUT a, b shuts", x.act(SHUT), 2);
        due("OPENED", x.about(1, 1), 2);
        due("why changes nothing", x.why(OPEN1), 0);
        due("open", x.open(1), 0);
        x.set(0, 0, 1);
        due("no LIMIT left", x.act(0), -3);
        due("SHUT d", x.act(SHUT + 3), 0);
        due("no LIMIT left", x.act(3), -3);
        due("never", x.act(4), -5);
    }

    private static void settles() {
        // a shuts at once as it comes to be open; so does what can't bear it
        BesideAnother x = books("!a", "!a", "b", "1");
        acts(x, 1, 2);
        due("OPEN a", x.act(0), 7);
        due("open", x.open(0), 0);
        due("OPENED", x.about(0, 1), 1);
        // all that MAY not be shut at once: a and b would each do with the other gone
        x = books("!b", "!a|n=2", "1");
        acts(x, 2, 1);
        due("open", x.open(0), 6);
        Telling.book(x, 1, "1");
        acts(x, SHUT + 1, 0);
        Telling.book(x, 1, "c");
        due("OPEN b", x.act(1), 1);
        due("open", x.open(0), 6);
        x = books("n<2", "n<2", "n<2");
        acts(x, 0);
        due("both go at once", x.act(1), 3);
        // again and again, along a row of them
        x = books("1", "a", "b", "c", "d", "e");
        x.set(1, 0, 6);
        acts(x, 0, 1, 2, 3, 4, 5);
        due("open", x.open(0), 63);
        due("SHUT a", x.act(SHUT), 62);
        // HAND settles both, and may shut what is handed
        x = books("t=0|!a", "1", "b");
        acts(x, 0, 1, 2);
        due("HAND b", x.act(HAND1 + 1), 4);
        due("HAND a", x.act(HAND1), 1);
        due("open", x.open(1), 2);
        due("count(3)", x.count(3), 2);
    }

    private static void can() {
        BesideAnother x = books("1", "a", "0", "t");
        due(x, "can", x.can(), 5, 0, 20, 23, 40, 43);
        acts(x, OPEN1);
        due(x, "can", x.can(), 5, 21, 23, 43, HAND0, HAND2);
        x.set(0, 1, 0);
        due(x, "can", x.can(), 4, 23, 43, HAND0, HAND2);
        x.set(1, 1, 1);
        due(x, "can", x.can(), 3, 43, HAND0, HAND2);
        BesideAnother y = books("1", "1", "1", "1");
        due(y, "can, the first 8", y.can(), 12, 0, 1, 2, 3, 20, 21, 22, 23);
        BesideAnother z = books("0");
        due(z, "can", z.can(), 0);
    }

    private static void night() {
        BesideAnother x = books("1", "a", "1", "d");
        acts(x, 0, 1, OPEN1 + 2);
        due("night of none such", x.night(16), -1);
        due("night of none such", x.night(-1), -1);
        due("open", x.count(3), 7);
        due("night", x.night(2 + 4 + 8), 4);
        due("open", x.open(1), 4);
        acts(x, 0, 1);
        due("night, all", x.night(15), 7);
        due("night", x.night(1 + 4), 5);
        due("night", x.night(0), 0);
        due("OPENED", x.about(0, 1), 2);
    }

    private static void judge() {
        BesideAnother x = books("1", "a", "!b");
        due(x, "none", x.judge(0, 0, 0), -2, 0, 0, 0);
        due(x, "three", x.judge(3, 0 | 1 << 8 | HAND1 << 16, 0), -2, 0, 1, 0);
        due(x, "the second can't", x.judge(3, 1 << 16 | 2 << 8 | 1, 0), 0, 0, 0, 0);
        due(x, "c shuts, then again", x.judge(4, 2 | 0 << 8 | 1 << 16 | 2 << 24, 0), 3, 3, 0, 0);
        due(x, "eight", x.judge(8, 0 | 1 << 8 | SHUT + 1 << 16 | 1 << 24, SHUT | OPEN2 << 8 | OPEN2 + 1 << 16 | OPEN1 + 2 << 24), -2, 0, 4, 3);
        due(x, "no such act", x.judge(1, 200, 0), 0, 0, 0, 0);
        due(x, "the last can't", x.judge(8, 0 | 1 << 8 | SHUT + 1 << 16 | 1 << 24, SHUT | OPEN2 << 8 | OPEN2 + 1 << 16 | 140 << 24), 7, 0, 0, 3);
        x.set(0, 0, 2);
        due(x, "OPENED counts on", x.judge(5, 0 | SHUT << 8 | 0 << 16 | SHUT << 24, 0), 4, 0, 0, 0);
        due("nine", x.judge(9, 0, 0), -1);
        due("below 0", x.judge(-1, 0, 0), -1);
        due("nothing changes", x.count(3) + x.about(0, 1), 0);
        acts(x, OPEN1);
        due(x, "from now on", x.judge(1, OPEN1 + 1, 0), -2, 0, 3, 0);
        due(x, "from now on", x.judge(1, OPEN2, 0), 0, 0, 1, 0);
        due("nothing changes", x.open(1), 1);
    }

    private static void readers() {
        BesideAnother x = books("1;1;0", "1", "a;2;!a");
        due("reader", x.reader(3, 0), -1);
        due("reader", x.reader(-1, 0), -1);
        due("reader", x.reader(0, 8), -1);
        due("reader", x.reader(0, -1), -1);
        due("count(1)", x.count(1), 0);
        for (int i = 0; i < 6; i++) {
            due("reader", x.reader(i % 3, i + 1), i);
        }
        due("a seventh", x.reader(0, 0), -1);
        due("TABLE", x.of(4, 0), 1);
        due("LIST", x.of(4, 1), 5);
        due("READ", x.of(4, 2), 0);
        due("left", x.of(4, 3), 5);
        due("sit", x.sit(4, 0), 1);
        due("sit", x.sit(4, 2), 0);
        due("sit", x.sit(4, 3), -1);
        due("sit", x.sit(4, -1), -1);
        due("sit", x.sit(6, 0), -1);
        due("sit", x.sit(-1, 0), -1);
        due("TABLE", x.of(4, 0), 2);
        due("not open", x.read(0, 1), -2);
        acts(x, 0, 1, 2);
        due("open elsewhere", x.read(1, 1), -2);
        due("none such", x.read(0, 3), -1);
        due("none such", x.read(0, -1), -1);
        due("none such", x.read(6, 0), -1);
        due("none such", x.read(-1, 0), -1);
        due("read", x.read(0, 1), 1);
        due("once more", x.read(0, 1), 1);
        due("of another", x.read(3, 1), 2);
        due("READ, not of its LIST", x.of(0, 2), 2);
        due("left", x.of(0, 3), 1);
        due("read c", x.read(0, 2), 1);
        due("open", x.open(0), 7);
        due("read a: a and c shut", x.read(0, 0), 1);
        due("open", x.open(0), 2);
        due("a MAY no more", x.why(0), -5);
        due("left", x.of(0, 3), 0);
        for (int what : new int[] {-1, 4}) {
            throwing("of", () -> x.of(0, what));
        }
        throwing("of(6, 0)", () -> x.of(6, 0));
        throwing("of(-1, 0)", () -> x.of(-1, 0));
    }

    private static void hours() {
        BesideAnother x = books("1", "a", "1");
        due("hours(51)", x.hours(51), -1);
        due("hours(-1)", x.hours(-1), -1);
        due(x, "hours(0)", x.hours(0), 0, 0, 0);
        due(x, "hours(50) without READERS", x.hours(50), 1, 1, 0);
        due("count(2)", x.count(2), 1);
        due("count(4)", x.count(4), 0);
        x.reader(0, 2);
        x.reader(1, 4);
        x.reader(0, 0);
        due(x, "hours(0)", x.hours(0), 0, 0, 4);
        // a is opened for the sake of b
        due(x, "an HOUR", x.hours(1), 1, 0, 4);
        due("log", x.log(2), 40);
        due("log", x.log(1), 142);
        due("log", x.log(0), 200);
        due("log", x.log(3), -2);
        due("log", x.log(-1), -1);
        due(x, "two more", x.hours(2), 2, 0, 7);
        due("log", x.log(5), 41);
        due("log", x.log(4), 122);
        due("log", x.log(2), 21);
        due("log", x.log(1), 100);
        due(x, "the last", x.hours(50), 1, 1, 7);
        due("count(2)", x.count(2), 5);
        due("count(4)", x.count(4), 12);
    }

    private static void steps() {
        // READ settles its TABLE: the next READER sees that; OPEN goes by BOOKS' numbers, within its LIST
        BesideAnother x = books("1;1;0", "1", "1");
        x.reader(0, 1);
        x.reader(0, 1 + 4);
        acts(x, 0);
        due(x, "an HOUR", x.hours(1), 1, 0, 1);
        due("log: READ a", x.log(1), 20);
        due("log: OPEN c, as a is shut", x.log(0), 142);
        // SHUT for the sake of ROOM; the first BOOK that does
        x = books("1", "1", "1");
        x.set(1, 0, 2);
        x.reader(0, 4);
        acts(x, 0, 1);
        due(x, "an HOUR", x.hours(1), 1, 0, 0);
        due("log: SHUT a", x.log(0), 60);
        due("open", x.open(0), 2);
        // SHUT what bars; the first that does not help stays
        x = books("1", "1", "!b");
        x.reader(0, 4);
        acts(x, 0, 1);
        x.hours(1);
        due("log: SHUT b", x.log(0), 61);
        // a BOOK of its LIST that is open elsewhere is not opened, nor handed
        x = books("1", "1");
        x.reader(0, 1);
        acts(x, OPEN1);
        due(x, "an HOUR", x.hours(5), 1, 1, 0);
        due("log: nothing", x.log(0), 0);
        // no LIMIT left: nothing either
        x = books("1");
        x.reader(0, 1);
        x.set(0, 0, 0);
        due(x, "an HOUR", x.hours(5), 1, 1, 0);
        // OPEN a helper that shuts another BOOK, as then SETTLED
        x = books("1", "!c|n<1", "!a");
        x.reader(0, 2);
        acts(x, 2);
        due(x, "two HOURS", x.hours(2), 2, 0, 0);
        due("log: OPEN a, c shuts", x.log(1), 40);
        due("log: OPEN b", x.log(0), 41);
        due("open", x.open(0), 3);
        // the order is as the HOUR begins
        x = books("1", "1");
        x.reader(0, 1);
        x.reader(1, 2);
        Telling.rule(x, "t=1&n=0");
        x.hours(1);
        due("log: the second first", x.log(1), 141);
        due("log", x.log(0), 40);
        x.hours(1);
        due("log: then the first", x.log(1), 20);
        due("log", x.log(0), 121);
        due("OPENED", x.about(0, 1), 1);
        // the first BOOK of its LIST
        x = books("0", "1", "1");
        x.reader(2, 7);
        due(x, "HOURS", x.hours(50), 5, 1, 0);
        due("log", x.log(4), 41);
        due("log", x.log(3), 21);
        due("log", x.log(2), 42);
        due("log", x.log(1), 22);
        due("log", x.log(0), 0);
        due("left", x.of(0, 3), 1);
    }

    private static void log() {
        BesideAnother x = books("1");
        for (int i = 0; i < 6; i++) {
            x.reader(0, i == 5 ? 1 : 0);
        }
        x.hours(1);
        due("log", x.log(0), 540);
        due("count(4)", x.count(4), 6);
        for (int i = 0; i < 9; i++) {
            x.hours(1);
        }
        due("count(4)", x.count(4), 60);
        due("log", x.log(59), 0);
        due("log", x.log(54), 540);
        due("log", x.log(60), -2);
        x.hours(1);
        due("count(4)", x.count(4), 60);
        due("the last 60", x.log(54), 520);
        due("the last 60", x.log(60), -2);
        due("count(2)", x.count(2), 11);
    }

    private static void ring() {
        BesideAnother x = books("1", "1", "1", "1");
        x.order();
        due("no READERS", x.ring(), 0);
        x.reader(0, 2);
        x.reader(1, 4);
        x.reader(2, 1);
        x.can();
        due("nothing is open", x.ring(), 0);
        due("the ROW stays", x.count(5), 8);
        acts(x, 0, OPEN1 + 1, OPEN2 + 2);
        due(x, "three", x.ring(), 3, 0, 1, 2);
        x.reader(2, 2);
        x.reader(1, 4 + 8);
        due(x, "two", x.ring(), 2, 1, 3);
        acts(x, SHUT + 2);
        due("none", x.ring(), 0);
        acts(x, OPEN2 + 3);
        due(x, "two", x.ring(), 2, 3, 4);
        due("read", x.read(2, 3), 1);
        due("a BOOK on its own TABLE is not waited for", x.ring(), 2);
        acts(x, SHUT + 3);
        due("none", x.ring(), 0);
        due("the ROW stays", x.count(5), 2);
        x = books("1", "1", "1");
        x.reader(0, 2);
        x.reader(2, 1);
        x.reader(1, 4);
        acts(x, 0, OPEN1 + 1, OPEN2 + 2);
        due(x, "each ahead of whom it waits for", x.ring(), 3, 0, 2, 1);
        x.sit(2, 0);
        due(x, "who sits elsewhere", x.ring(), 2, 1, 2);
    }

    private static void needs() {
        BesideAnother x = books("1", "a", "(a|b)&!d", "0", "n=2", "a&b&c&!d", "t=2&f");
        due("needs", x.needs(0, 0), 0);
        due("needs", x.needs(1, 0), 1);
        due("needs", x.needs(2, 0), 0);
        due("needs, never", x.needs(3, 0), 127 - 8);
        due("needs", x.needs(4, 0), 0);
        due("needs, no ROOM for it", x.needs(5, 0), 127 - 32);
        due("needs", x.needs(6, 2), 32);
        due("needs", x.needs(6, 1), 63);
        due("bars", x.bars(0, 0), 0);
        due("bars", x.bars(2, 0), 8);
        due("bars, never", x.bars(3, 0), 127 - 8);
        due("bars, never", x.bars(5, 0), 127 - 32);
        due(x, "least", x.least(0, 0), 0, 0, 1);
        due(x, "least", x.least(1, 0), 1, 1, 1);
        due(x, "least", x.least(2, 0), 1, 1, 2);
        due(x, "least", x.least(4, 0), 2, 3, 15);
        due("least, never", x.least(3, 0), -2);
        due("the ROW stays", x.count(5), 2);
        x.set(1, 0, 4);
        due("needs", x.needs(5, 0), 7);
        due("bars: there is ROOM for no other", x.bars(5, 0), 8 + 16 + 64);
        due(x, "least", x.least(5, 0), 3, 7, 1);
        x.set(1, 0, 5);
        due("bars", x.bars(5, 0), 8);
        x.set(1, 0, 1);
        due("needs, alone", x.needs(0, 0), 0);
        due("bars, alone", x.bars(0, 0), 126);
        due("needs, alone", x.needs(1, 0), 125);
        for (int[] none : new int[][] {{7, 0}, {-1, 0}, {0, 3}, {0, -1}}) {
            due("needs", x.needs(none[0], none[1]), -1);
            due("bars", x.bars(none[0], none[1]), -1);
            due("least", x.least(none[0], none[1]), -1);
        }
        x = books("1", "1", "a&b");
        due("needs all others", x.needs(2, 0), 3);
        due(x, "least", x.least(2, 0), 2, 3, 1);
        // a BOOK that counts itself: it is not among the others
        x = books("a", "n", "1");
        due("needs", x.needs(0, 0), 6);
        due("needs", x.needs(1, 0), 0);
        due(x, "least", x.least(1, 0), 1, 1, 2);
        // the second CONDITION, once READ
        x = books("1;1;b", "1");
        x.reader(0, 0);
        acts(x, 0);
        due("needs", x.needs(0, 0), 0);
        x.read(0, 0);
        due("needs", x.needs(0, 0), 2);
    }

    private static void knot() {
        BesideAnother x = books("1", "a", "b");
        x.can();
        due("none", x.knot(0), 0);
        due("the ROW stays", x.count(5), 3);
        due("another TABLE", x.knot(3), -1);
        due("another TABLE", x.knot(-1), -1);
        Telling.book(x, 0, "c");
        due(x, "three", x.knot(0), 3, 0, 2, 1);
        Telling.book(x, 12, "e");
        Telling.book(x, 12, "d");
        due(x, "two", x.knot(1), 2, 3, 4);
        Telling.book(x, 12, "0");
        due(x, "one", x.knot(2), 1, 5);
        x = books("b&d", "c&d", "a", "1", "f", "e");
        due(x, "two is shorter", x.knot(0), 2, 4, 5);
        Telling.book(x, 5, "1");
        due(x, "three", x.knot(0), 3, 0, 1, 2);
        x.set(1, 0, 2);
        due(x, "two needed with ROOM for one", x.knot(0), 1, 0);
        x = books("b|c", "a", "a");
        due("either does", x.knot(0), 0);
        x = books("1", "c", "d", "b", "f", "e", "h", "g");
        due(x, "of as short the least row", x.knot(0), 2, 4, 5);
        x = books("b", "c", "d", "e", "f", "g", "h", "i", "j", "k", "l", "a");
        due(x, "all twelve", x.knot(0), 12, 0, 1, 2, 3, 4, 5, 6, 7, 8, 9, 10, 11);
    }

    private static void hold() {
        BesideAnother x = books("1", "a", "!d", "!c", "0");
        // nothing; a; ab; c; d; ac; ad; abc; abd
        due(x, "hold", x.hold(0), 9, 7);
        x.set(1, 0, 2);
        due(x, "hold", x.hold(0), 7, 3);
        x.set(1, 0, 1);
        due(x, "hold", x.hold(0), 4, 1);
        due("hold", x.hold(3), -1);
        due("hold", x.hold(-1), -1);
        // sets that hold, though none can come: each waits for the other
        x = books("b", "a");
        due(x, "hold", x.hold(1), 2, 3);
        due(x, "comes", x.comes(1), 1, 0, 0);
        x = books("t=1");
        due(x, "hold", x.hold(0), 1, 0);
        due(x, "hold", x.hold(1), 2, 1);
    }

    private static void comes() {
        BesideAnother x = books("1", "a", "b&!a|c", "0");
        // b stays only beside a: nothing, a, ab; c never opens
        due(x, "comes", x.comes(0), 3, 3, 2);
        Telling.book(x, 1, "a|c");
        Telling.book(x, 2, "b");
        // nothing, a, ab, abc, bc
        due(x, "comes", x.comes(0), 5, 7, 4);
        due(x, "together", x.together(0, 6), 3, 0, 1, 2);
        due(x, "together", x.together(0, 7), 3, 0, 1, 2);
        due(x, "together", x.together(1, 0), 0);
        due("never", x.together(0, 8), -2);
        due("the ROW stays", x.count(5), 0);
        due("none such", x.together(0, 16), -1);
        due("none such", x.together(0, -1), -1);
        due("none such", x.together(3, 1), -1);
        due("none such", x.together(-1, 1), -1);
        due("comes", x.comes(3), -1);
        due("comes", x.comes(-1), -1);
        // as if nothing were open: what is open does not matter
        acts(x, OPEN1, 0 + OPEN1 + 1);
        due(x, "comes", x.comes(1), 5, 7, 4);
        due(x, "together", x.together(1, 6), 3, 20, 21, 22);
        due("open", x.open(1), 3);
        // d only beside b and c without a: a has to shut
        Telling.book(x, 3, "!a&b&c");
        due(x, "together", x.together(2, 8), 5, 40, 41, 42, 60, 43);
        x.set(0, 2, 0);
        due("no LIMIT left", x.together(2, 8), -2);
        due(x, "comes", x.comes(2), 3, 3, 2);
        x.set(0, 2, 1);
        due(x, "a LIMIT that is left does not matter", x.together(2, 8), 5, 40, 41, 42, 60, 43);
        // the least row of as few
        x = books("1", "1", "a|b", "1");
        due(x, "together", x.together(0, 4), 2, 0, 2);
        due(x, "together", x.together(1, 8 + 2), 2, 21, 23);
        x.set(1, 0, 2);
        due("no ROOM for so many", x.together(0, 7), -2);
        // nothing; a, b, d; ab, ac, ad, bc, bd
        due(x, "comes", x.comes(0), 9, 15, 2);
        // a row of more than 10 ACTS, of which the first 10 are told: each stays beside a neighbour, and there is
        // ROOM for three: a, ab, abc, bc, bcd, cd, cde, de, def, ef, efg
        x = books("1", "a|c", "b|d", "c|e", "d|f", "e|g", "f", "1");
        due(x, "together", x.together(0, 64), 11, 0, 1, 2, 60, 3, 61, 4, 62, 5, 63);
    }

    private static void frees() {
        BesideAnother x = books("1", "c", "0", "c|a", "!c");
        // a lets d and e; b: a and e; c, though it never MAY: a, b, d; d: a, e; e: a
        due(x, "frees", x.frees(0), 2, 3, 1 + 2 + 8);
        x.set(0, 1, 0);
        due(x, "no LIMIT left", x.frees(0), 0, 2, 8 + 16);
        x.set(0, 0, 0);
        due(x, "what frees needs no LIMIT", x.frees(0), 0, 2, 8 + 16);
        x.set(1, 0, 1);
        due(x, "no ROOM for others", x.frees(0), 0, 0, 0);
        due("another", x.frees(3), -1);
        due("another", x.frees(-1), -1);
        due("no BOOKS", new BesideAnother().frees(2), -2);
        due("no BOOKS, another TABLE", new BesideAnother().frees(3), -1);
        x = books("t=2", "1");
        due(x, "frees", x.frees(1), 0, 1, 2);
        due(x, "frees", x.frees(2), 0, 1, 2);
        acts(x, OPEN1 + 1);
        due(x, "as if nothing were open", x.frees(2), 0, 1, 2);
    }

    private static void keeps() {
        BesideAnother x = books("1", "b|c", "b", "0");
        due(x, "keeps", x.keeps(0, 0), 0, 0);
        due(x, "keeps", x.keeps(0, 1), 0, 0);
        // b stays by itself, though it can't come; c opens beside it
        due(x, "keeps", x.keeps(0, 2), 1, 2);
        due(x, "keeps", x.keeps(0, 4), 1, 2);
        due(x, "keeps", x.keeps(0, 7), 1, 2);
        due("never", x.keeps(0, 8), -2);
        due("the ROW stays", x.count(5), 1);
        for (int[] none : new int[][] {{3, 0}, {-1, 0}, {0, 16}, {0, -1}}) {
            due("keeps", x.keeps(none[0], none[1]), -1);
        }
        // pairs that hold together: then others come
        x = books("b", "a", "a&b", "d&n>1|f", "d", "d&e");
        due(x, "keeps", x.keeps(0, 4), 2, 3);
        due("both, no ROOM", x.keeps(0, 4 + 16), -2);
        x.set(1, 0, 5);
        due(x, "both", x.keeps(0, 4 + 16), 3, 1 + 2 + 8);
        x.set(1, 0, 1);
        due("ROOM for one", x.keeps(0, 1), -2);
        x.set(1, 0, 2);
        due(x, "ROOM for two", x.keeps(0, 3), 2, 3);
        x = books("b", "c", "a");
        due(x, "ROOM for three", x.keeps(1, 1), 3, 7);
        x.set(1, 1, 2);
        due("no ROOM for three", x.keeps(1, 1), -2);
        // of as few the least; the fewest, though more have a lesser number
        x = books("a", "b", "a|b");
        due(x, "of as few the least", x.keeps(0, 4), 1, 1);
        x = books("b", "a", "c", "a&b|c");
        due(x, "the fewest", x.keeps(0, 8), 1, 4);
        // one that is open at first, but settles shut and takes another with it
        x = books("n=1&a", "!a|c", "0");
        due(x, "keeps", x.keeps(0, 3), 1, 1);
        // no LIMIT left: it has to be open at first
        x = books("1", "a");
        x.set(0, 0, 0);
        due(x, "keeps", x.keeps(0, 1), 1, 1);
        due(x, "keeps", x.keeps(0, 3), 1, 1);
        // each of them, not all at once
        x = books("!b", "!a");
        due(x, "keeps", x.keeps(0, 3), 0, 0);
    }

    private static void finish() {
        BesideAnother x = books("1", "!a", "0", "d", "t=1");
        x.reader(0, 3);
        x.reader(2, 2 + 4 + 8);
        x.reader(1, 16);
        due(x, "none", x.finish(0, 0), 1);
        due(x, "a and b, though not together", x.finish(0, 1), 1);
        due(x, "finish", x.finish(0, 3), 0, 12);
        due(x, "finish", x.finish(0, 4), 0, 16);
        due(x, "finish", x.finish(1, 4), 1);
        due(x, "finish", x.finish(2, 7), 0, 28);
        for (int[] none : new int[][] {{3, 0}, {-1, 0}, {0, 8}, {0, -1}}) {
            due("finish", x.finish(none[0], none[1]), -1);
        }
        x.set(0, 0, 1);
        acts(x, 0);
        due(x, "no LIMIT left", x.finish(0, 1), 0, 1);
        x.read(0, 0);
        due(x, "what is READ is not left", x.finish(0, 1), 1);
    }

    private static void reach() {
        BesideAnother x = books("1", "a&t=1");
        // nothing; a on 0, 1, 2; ab on 1; b never without a
        due(x, "reach", x.reach(), 5, 3, 2);
        due(x, "soonest", x.soonest(1), 2, 20, 21);
        due(x, "soonest", x.soonest(0), 1, 0);
        due(x, "till", x.till(0, 3, 0), 2, 20, 21);
        due(x, "till", x.till(0, 0, 1), 1, 40);
        due(x, "till what is", x.till(0, 0, 0), 0);
        due("till", x.till(0, 2, 0), -2);
        due("till", x.till(1, 2, 0), -2);
        due("soonest", x.soonest(2), -1);
        due("soonest", x.soonest(-1), -1);
        for (int[] none : new int[][] {{1, 1, 0}, {0, 1, 1}, {1, 0, 1}, {4, 0, 0}, {0, -1, 0}, {0, 0, 4}}) {
            due("till" + Arrays.toString(none), x.till(none[0], none[1], none[2]), -1);
        }
        acts(x, OPEN1, OPEN1 + 1);
        due(x, "soonest: it is", x.soonest(1), 0);
        due(x, "from now on", x.reach(), 5, 3, 1);
        due(x, "till", x.till(1, 0, 0), 1, HAND0);
        due(x, "till", x.till(0, 0, 0), 1, SHUT);
        due(x, "till what is", x.till(0, 3, 0), 0);
        // HAND comes behind OPEN and SHUT in the row, and needs no LIMIT
        x = books("1", "a", "b&t=2");
        acts(x, 0, 1);
        x.set(0, 0, 1);
        due(x, "soonest", x.soonest(2), 3, HAND2, 41, 42);
        x.set(0, 1, 1);
        due("b has no LIMIT left", x.soonest(2), -2);
        due("the ROW stays", x.count(5), 3);
        x = books("1", "1", "n=2");
        due("it opens, but does not stay so", x.soonest(2), -2);
        Telling.book(x, 2, "n>1");
        due(x, "the least row", x.soonest(2), 3, 0, 1, 2);
        due(x, "a and c hold there without b", x.till(0, 5, 2), 4, 20, 21, 22, HAND2 + 1);
        due("c alone does not", x.till(0, 4, 0), -2);
        due(x, "the least row", x.till(1, 2, 0), 2, 0, 21);
        due(x, "the least row", x.till(0, 2, 1), 2, 21, 40);
        x = books("t=0", "t=1&a|t=0&a", "t=1&b|t=2|b&!a");
        acts(x, OPEN2 + 2);
        due(x, "reach", x.reach(), 4 + 2, 7, 3);
        // ROOM that is less than what is open
        x = books("1", "1");
        acts(x, 0, 1);
        x.set(1, 0, 1);
        x.set(1, 1, 1);
        x.set(1, 2, 1);
        due(x, "what is open stays", x.till(3, 0, 0), 0);
        due(x, "but is gone once left", x.reach(), 1 + 6 + 1 + 6, 3, 2);
        due("no ROOM for both", x.till(0, 3, 0), -2);
    }

    private static void tooMany() {
        // 6 BOOKS that may be anywhere: 4096 ways less those with more than 3 on one TABLE
        BesideAnother x = books("1", "1", "1", "1", "1", "1");
        int states = 4096 - 3 * (15 * 9 + 6 * 3 + 1);
        due("reach", x.reach(), 4096 - 3 * (15 * 9 + 6 * 3 + 1));
        due("row", x.row(1), 6);
        Telling.book(x, 12, "t=0&n=0&l");
        due("reach", x.reach(), states);
        Telling.book(x, 6, "1");
        due("reach", x.reach(), -3);
        due("the ROW stays", x.count(5), 2);
        due("soonest", x.soonest(0), -3);
        due("soonest of none such", x.soonest(7), -1);
        due("till", x.till(0, 0, 0), -3);
        due("till one in two", x.till(1, 1, 0), -1);
        due("free", x.free(), -3);
        due("lost: nothing is open, no search", x.lost(), 0);
        acts(x, 6);
        due("lost", x.lost(), -3);
        due("reach", x.reach(), -3);
        due("soonest, though it is", x.soonest(6), -3);
        x.set(0, 6, 1);
        due("reach", x.reach(), -3);
        due("lost: without g there are fewer", x.lost(), 64);
        acts(x, 0);
        due("lost: behind a there is g still", x.lost(), -3);
        due(x, "one TABLE behind a search that was too much", x.keeps(2, 63), 0, 0);
        due(x, "one TABLE", x.comes(2), 1 + 6 + 15 + 20, 63, 3);
        acts(x, SHUT, SHUT + 6);
        due("reach", x.reach(), states);
        // one TABLE alone never has so many
        BesideAnother y = books("1", "1", "1", "1", "1", "1", "1", "1", "1", "1", "1", "1");
        y.set(1, 2, 6);
        due(y, "comes", y.comes(2), 2510, 4095, 6);
        due(y, "hold", y.hold(2), 2510, 63);
        due(y, "keeps", y.keeps(2, 4095), 0, 0);
        due("reach", y.reach(), -3);
        justEnough();
    }

    /** 5000 states are told, more are not. */
    private static void justEnough() {
        // a .. f are anywhere: 4096
        BesideAnother x = books("1", "1", "1", "1", "1", "1");
        for (int t = 0; t < 3; t++) {
            x.set(1, t, 6);
        }
        due(x, "4096", x.reach(), 4096, 63, 6);
        // g just beside a, b, c on 0, h just beside d, e, f on 1: 27 each, 1 with both
        Telling.book(x, 12, "t=0&a&b&c&!(d|e|f|i|j|k|l)");
        Telling.book(x, 12, "t=1&d&e&f&!(a|b|c)");
        due(x, "55 more", x.reach(), 4151, 255, 8);
        // the others on 0, one of them at most, and none with g or h: i beside one of d, e, f: 3 * 243
        Telling.book(x, 12, "t=0&d+e+f=1&!(a|b|c|g|j|k|l)");
        due("729 more", x.reach(), 4880);
        // j beside a, d: 81; k beside a, d, e and perhaps b: 27 + 9
        Telling.book(x, 12, "t=0&a&d&!(b|c|e|f|g|i|k|l)");
        due("81 more", x.reach(), 4961);
        Telling.book(x, 12, "t=0&a&d&e&!(c|f|g|i|j|l)");
        due("36 more", x.reach(), 4997);
        // l beside a .. e: f is elsewhere
        Telling.book(x, 12, "t=0&a&b&c&d&e&!(f|g|i|j|k)");
        due(x, "3 more: just 5000", x.reach(), 5000, 4095, 8);
        due(x, "soonest", x.soonest(11), 6, 0, 1, 2, 3, 4, 11);
        due(x, "free", x.free(), 1);
        due("keeps: g is not for TABLE 2", x.keeps(2, 64), -2);
        Telling.book(x, 8, "t=0&d+e+f=1&!(a|b|c|g|j|k|l)|t=2&a&b&c&d&e");
        due("3 more: too many", x.reach(), -3);
        due(x, "keeps: i is, beside a .. e", x.keeps(2, 256), 0, 0);
        due("keeps: g is not", x.keeps(2, 64), -2);
        due("3 more: too many", x.reach(), -3);
        due("soonest", x.soonest(0), -3);
    }

    private static void lostAndFree() {
        BesideAnother x = books("1", "a|c", "b");
        due("lost", x.lost(), 0);
        due(x, "free", x.free(), 1);
        acts(x, 0, 1, 2);
        due("lost", x.lost(), 0);
        due(x, "free", x.free(), 1);
        // a has no LIMIT left: b and c hold each other
        x.set(0, 0, 1);
        due("lost: a; b only if a stays, and it does", x.lost(), 1);
        due(x, "free", x.free(), 0, 1, 1);
        acts(x, SHUT);
        due("open", x.open(0), 6);
        due("lost", x.lost(), 6);
        due(x, "free", x.free(), 0, 1, 6);
        acts(x, SHUT + 1);
        due("open", x.open(0), 0);
        due("lost", x.lost(), 0);
        due(x, "free", x.free(), 1);
        // behind more than one ACT; of as few that of the least row
        x = books("1", "1", "a|b|c", "0");
        acts(x, 0, 1, 2);
        Telling.book(x, 2, "a|b");
        Telling.book(x, 0, "a|b");
        Telling.book(x, 1, "b|a");
        // a and b hold themselves, and let each other and c open: all are gone when both are
        due("lost", x.lost(), 0);
        due(x, "free", x.free(), 0, 2, 7);
        // a BOOK that can be opened but not stay so is lost
        x = books("1;1;!a");
        x.reader(0, 0);
        acts(x, 0);
        x.read(0, 0);
        acts(x, 0);
        due("settled", x.open(0), 0);
        x = books("1");
        acts(x, 0);
        Telling.book(x, 0, "a|t=1");
        due("lost: no, TABLE 1 does", x.lost(), 0);
        Telling.book(x, 0, "a");
        due("lost", x.lost(), 1);
        due(x, "free", x.free(), 0, 1, 1);
        Telling.book(x, 0, "1");
        due("lost", x.lost(), 0);
        x.keep(0);
        Telling.book(x, 0, "!a");
        due("shut", x.open(0), 0);
        x.again(0);
        due("open, though it MAY not be", x.open(0), 1);
        due("lost: it can open, not stay so", x.lost(), 1);
    }

    private static void keepAndAgain() {
        BesideAnother x = books("1", "a", "1");
        x.reader(0, 7);
        x.reader(1, 4);
        due("keep(3)", x.keep(3), false);
        due("keep(-1)", x.keep(-1), false);
        due("again(0)", x.again(0), false);
        due("again(3)", x.again(3), false);
        due("again(-1)", x.again(-1), false);
        x.hours(2);
        x.sit(1, 2);
        due("keep(1)", x.keep(1), true);
        due("again(0)", x.again(0), false);
        due("open", x.open(0), 1);
        due("READ", x.of(0, 2), 1);
        x.hours(3);
        x.sit(1, 0);
        x.sit(0, 1);
        Telling.book(x, 12, "1");
        x.reader(1, 8);
        x.sit(2, 2);
        acts(x, OPEN2 + 3);
        x.read(2, 3);
        x.set(0, 3, 50);
        x.set(1, 2, 5);
        due("again(1)", x.again(1), true);
        due("open", x.open(0), 1);
        due("open", x.open(1), 4);
        due("open", x.open(2), 0);
        due("OPENED", x.about(0, 1), 1);
        due("OPENED", x.about(1, 1), 0);
        due("OPENED of one told since", x.about(3, 1), 0);
        due("READ by none", x.about(3, 3), 0);
        due("READ", x.of(0, 2), 1);
        due("READ", x.of(1, 2), 4);
        due("READ by how many", x.about(0, 3), 1);
        due("READ by how many", x.about(1, 3), 0);
        due("READ by how many", x.about(2, 3), 1);
        due("READ of one told since", x.of(2, 2), 0);
        due("sits", x.of(0, 0), 0);
        due("sits", x.of(1, 0), 2);
        due("sits where reader() told", x.of(2, 0), 1);
        due("HOURS", x.count(2), 2);
        due("LOG", x.count(4), 4);
        due("LOG", x.log(0), 122);
        due("LOG", x.log(3), 40);
        due("LIMIT is not kept", x.about(3, 0), 50);
        due("ROOM is not kept", x.set(1, 2, 3), 5);
        due("BOOKS stay", x.count(0), 4);
        due("READERS stay", x.count(1), 3);
        // readings count again as kept: CONDITIONS too
        x = books("1;1;0");
        x.reader(0, 0);
        x.keep(2);
        acts(x, 0);
        x.keep(0);
        x.read(0, 0);
        due("why", x.why(0), -5);
        due("again", x.again(2), true);
        due("why", x.why(0), 0);
        due("again", x.again(0), true);
        due("open", x.open(0), 1);
        // nothing SETTLES by that; it does behind the next ACT there, and only there
        x = books("1", "1", "1");
        acts(x, 0, OPEN1 + 1);
        x.keep(0);
        Telling.book(x, 0, "0");
        Telling.book(x, 1, "0");
        due("open", x.count(3), 0);
        x.again(0);
        due("open", x.count(3), 3);
        due("OPEN c", x.act(2), 1);
        due("open", x.open(0), 4);
        due("open", x.open(1), 2);
        due("kept still", x.again(0), true);
        due("night settles all", x.night(7), 0);
        x.again(0);
        due("kept anew", x.keep(0), true);
        x.act(SHUT);
        x.keep(0);
        x.again(0);
        due("open", x.count(3), 2);
    }

    private static void counts() {
        BesideAnother x = books("1", "1", "1");
        x.reader(0, 3);
        x.reader(0, 0);
        acts(x, OPEN1, OPEN2 + 2);
        x.hours(1);
        x.sign(0);
        due("BOOKS", x.count(0), 3);
        due("READERS", x.count(1), 2);
        due("HOURS", x.count(2), 1);
        due("open anywhere", x.count(3), 1 + 2 + 4);
        due("LOG", x.count(4), 2);
        due("ROW", x.count(5), 2);
        due("TEXT", x.count(6), 4);
        due("another", x.count(7), -1);
        due("another", x.count(-1), -1);
        due("row", x.row(0), 0);
        due("row", x.row(1), 2);
        throwing("row(2)", () -> x.row(2));
        throwing("row(-1)", () -> x.row(-1));
        due("judge", x.judge(0, 0, 0), -2);
        due("a longer ROW", x.row(2), 4);
        due("a call that tells no ROW", x.needs(0, 0), 0);
        due("ROW", x.count(5), 3);
        due("refused", x.hours(99), -1);
        due("ROW", x.count(5), 3);
    }
}
