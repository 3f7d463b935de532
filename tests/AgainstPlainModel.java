import java.util.ArrayList;
import java.util.HashMap;
import java.util.HashSet;
import java.util.LinkedHashMap;
import java.util.List;
import java.util.Map;
import java.util.NoSuchElementException;
import java.util.Random;
import java.util.Set;
import java.util.TreeSet;

/**
 * Made-up runs of calls (the same ones each time), each call asked of BesideAnother and of a second telling of the
 * document, which is written as plainly and as unlike it as can be: sets, lists and texts, nothing kept in between.
 */
public final class AgainstPlainModel {

    private static final int NONE = -1;
    private static int wrong = 0;

    public static void main(String[] args) {
        int runs = args.length > 0 ? Integer.parseInt(args[0]) : 250;
        long seed = args.length > 1 ? Long.parseLong(args[1]) : 20261118L;
        Map<String, Integer> seen = new java.util.TreeMap<>();
        for (int run = 0; run < runs && wrong < 10; run++) {
            new Run(new Random(seed * 0xD1342543DE82EF95L + run * 0x9E3779B97F4A7C15L), run, seen).go();
        }
        if (args.length > 0) {
            System.out.println(seen);
        }
        System.out.println(wrong == 0 ? "both tell the same" : wrong + " answers are not as due");
        if (wrong != 0) {
            System.exit(1);
        }
    }

    // ---------------------------------------------------------------- runs

    private static final class Run {
        private final Random random;
        private final int run;
        private final Map<String, Integer> seen;
        private final BesideAnother real = new BesideAnother();
        private final Model model = new Model();
        private final StringBuilder told = new StringBuilder();
        private final int style;
        private boolean stop = false;

        Run(Random random, int run, Map<String, Integer> seen) {
            this.random = random;
            this.run = run;
            this.seen = seen;
            this.style = random.nextInt(7);
        }

        void go() {
            int first = style == 3 ? 7 + random.nextInt(6) : style == 1 || style >= 5 ? 4 + random.nextInt(3) : random.nextInt(7);
            for (int i = 0; i < first; i++) {
                tellText(expression(3));
                ask("book", 12);
            }
            for (int i = style >= 5 ? 3 + random.nextInt(4) : random.nextInt(5); i > 0; i--) {
                ask("reader", random.nextInt(3), random.nextInt(1 << Math.max(1, model.books.size())));
            }
            if (random.nextInt(3) == 0) {
                tellText(expression(2));
                ask("rule");
            }
            int calls = 40 + random.nextInt(120);
            for (int i = 0; i < calls && !stop; i++) {
                step();
            }
        }

        private String thing(int deep) {
            int k = random.nextInt(12);
            if (k < 5) {
                return "" + (char) ('a' + random.nextInt(Math.min(12, Math.max(3, model.books.size() + 1))));
            }
            if (k < 6) {
                return "n";
            }
            if (k < 7) {
                return random.nextBoolean() ? "r" : "t";
            }
            if (k < 9) {
                return "" + (random.nextInt(6) == 0 ? random.nextInt(100) : random.nextInt(4));
            }
            if (k < 10) {
                return "!" + thing(deep);
            }
            return deep > 0 ? "(" + plain(deep - 1) + ")" : "1";
        }

        private String plain(int deep) {
            int k = random.nextInt(10);
            if (k < 4) {
                return thing(deep);
            }
            String join = "" + "||&&<>=+-|".charAt(random.nextInt(10));
            String left = thing(deep);
            String right = random.nextInt(3) == 0 ? thing(deep) + "" + "|&+-".charAt(random.nextInt(4)) + thing(deep) : thing(deep);
            return left + join + right;
        }

        /** BOOKS that must and must not be there, some such ways: they make long rows of ACTS, knots and lost BOOKS. */
        private String terms() {
            StringBuilder out = new StringBuilder();
            int ways = 1 + random.nextInt(3);
            for (int i = 0; i < ways; i++) {
                int many = random.nextInt(5) == 0 ? 0 : 1 + random.nextInt(3);
                out.append(i > 0 ? "|" : "");
                for (int k = 0; k < many; k++) {
                    out.append(k > 0 ? "&" : "").append(random.nextInt(5) < 2 ? "!" : "").append((char) ('a' + random.nextInt(6)));
                }
                out.append(many == 0 ? "n<1" : "");
            }
            return out.toString();
        }

        private String expression(int deep) {
            int k = random.nextInt(10);
            String text = style == 1 || style % 3 == 2 && k < 5 ? terms() : k < 3 || style == 4 && k < 8 ? "1" : k < 5 ? "n<" + random.nextInt(5) : plain(deep);
            if (random.nextInt(style == 6 ? 2 : 4) == 0) {
                text += ";" + (1 + random.nextInt(3)) + ";" + plain(deep);
            }
            if (random.nextInt(12) == 0) {
                text = spoilt(text);
            }
            return text;
        }

        private String spoilt(String text) {
            StringBuilder out = new StringBuilder(text);
            String signs = "!&|<>=+-()0123456789abcdefghijklmnrt;, Z";
            for (int i = random.nextInt(3); i >= 0; i--) {
                int at = random.nextInt(out.length() + 1);
                int what = random.nextInt(4);
                char sign = random.nextInt(20) == 0 ? (char) random.nextInt(256) : signs.charAt(random.nextInt(signs.length()));
                if (what == 0) {
                    out.insert(at, sign);
                } else if (what == 1 && at < out.length()) {
                    out.setCharAt(at, sign);
                } else if (what == 2 && at < out.length()) {
                    out.deleteCharAt(at);
                } else if (random.nextInt(3) == 0) {
                    String more = out.toString();
                    while (out.length() < 38 + random.nextInt(30)) {
                        out.append("|&+-".charAt(random.nextInt(4))).append(more);
                    }
                }
            }
            return out.length() > 80 ? out.substring(0, 80) : out.toString();
        }

        private void tellText(String text) {
            for (int i = 0; i < text.length(); i += 4) {
                int v = 0;
                for (int k = 0; k < 4; k++) {
                    v = v << 8 | (i + k < text.length() ? text.charAt(i + k) : random.nextInt(256));
                }
                ask("sign", v);
            }
            if (text.length() % 4 != 0 || random.nextInt(5) == 0) {
                ask("end", text.length());
            }
        }

        private int some(int most) {
            return random.nextInt(25) == 0 ? random.nextInt(most + 4) - 2 : random.nextInt(Math.max(1, most));
        }

        private int bits(int many) {
            int k = random.nextInt(25);
            if (k == 0) {
                return random.nextBoolean() ? -1 - random.nextInt(5) : random.nextInt(1 << 13);
            }
            int all = (1 << many) - 1;
            return k < 12 ? random.nextInt() & random.nextInt() & all : k < 20 ? random.nextInt() & all : all;
        }

        /** Some runs are mostly of READERS, some of what is kept, told anew and read. */
        private int nextCall() {
            if (style < 5 || random.nextBoolean()) {
                return random.nextInt(44);
            }
            int[] most = style == 5 ? new int[] {7, 8, 18, 19, 21, 24, 24, 25, 26, 27, 27} : new int[] {0, 2, 7, 8, 16, 21, 22, 24, 43, 43};
            return most[random.nextInt(most.length)];
        }

        private void step() {
            int books = model.books.size();
            int people = model.readers.size();
            switch (nextCall()) {
                case 0: tellText(expression(3)); ask("book", random.nextInt(3) == 0 ? 12 : some(books)); break;
                case 1: tellText(expression(2)); ask("rule"); break;
                case 2: ask("set", random.nextInt(3), some(random.nextBoolean() ? 3 : 12), random.nextInt(3) == 0 ? random.nextInt(105) - 2 : random.nextInt(7)); break;
                case 3:
                    if (random.nextInt(4) == 0) {
                        int large = random.nextBoolean() ? random.nextInt() : random.nextInt(120);
                        ask("sheet", random.nextInt(6) - 1, random.nextInt(16) - 2, large, random.nextBoolean() ? random.nextInt() : random.nextInt(20) - 5);
                        if (random.nextBoolean()) {
                            ask("sheet", 3, 0, 0, 0);
                        }
                    }
                    break;
                case 4: ask("about", some(books), random.nextInt(6)); break;
                case 5: ask("open", some(3)); break;
                case 6: ask("value", some(books), some(3)); break;
                case 7: case 8: case 9: case 10: case 11: case 12: case 13: act(); break;
                case 14: ask("why", random.nextInt(150) - 3); break;
                case 15: ask("can"); break;
                case 16: if (random.nextInt(3) == 0) { ask("night", bits(books)); } break;
                case 17: ask("judge", random.nextInt(11) - 1, fourActs(), fourActs()); break;
                case 18: ask("reader", some(3), bits(books)); break;
                case 19: case 20: ask("sit", some(people), some(3)); break;
                case 21: case 22: ask("read", some(people), some(books)); break;
                case 23: ask("of", some(people), random.nextInt(6) - 1); break;
                case 24: ask("hours", random.nextInt(8) == 0 ? random.nextInt(54) - 2 : random.nextInt(4)); break;
                case 25: ask("log", random.nextInt(66) - 2); break;
                case 26: ask("order"); break;
                case 27: ask("ring"); break;
                case 28: ask("needs", some(books), some(3)); break;
                case 29: ask("bars", some(books), some(3)); break;
                case 30: ask("least", some(books), some(3)); break;
                case 31: ask("knot", some(3)); break;
                case 32: ask("hold", some(3)); break;
                case 33: ask("comes", some(3)); break;
                case 34: ask("together", some(3), bits(books)); break;
                case 35: ask("frees", some(3)); break;
                case 36: if (books < 7 || random.nextInt(6) == 0) { ask("keeps", some(3), bits(books)); } break;
                case 37: ask("finish", some(3), bits(people)); break;
                case 38: wide("reach"); break;
                case 39: wide("soonest", some(books)); break;
                case 40: till(books); break;
                case 41: wide("lost"); break;
                case 42: wide("free"); break;
                default: memory(); break;
            }
        }

        /** Searches on all TABLES take the model long when there are many BOOKS: fewer of them then. */
        private void wide(String name, int... args) {
            if (model.books.size() < 6 || random.nextInt(8) == 0) {
                ask(name, args);
            }
        }

        private void till(int books) {
            int a = bits(books);
            int b = bits(books);
            int c = bits(books);
            if (random.nextInt(10) != 0 && a >= 0 && b >= 0) {
                b &= ~a;
                c &= ~a & ~b;
            }
            if (random.nextInt(4) == 0) {
                a = model.mask(model.open.get(0));
                b = model.mask(model.open.get(1));
                c = model.mask(model.open.get(2));
            }
            wide("till", a, b, c);
        }

        private void act() {
            List<Integer> could = new ArrayList<>();
            for (int act = 0; act < 140; act++) {
                if (model.call("why", act) == 0) {
                    could.add(act);
                }
            }
            ask("act", could.isEmpty() || random.nextInt(6) == 0 ? random.nextInt(145) - 2 : could.get(random.nextInt(could.size())));
        }

        private int fourActs() {
            int all = 0;
            for (int i = 0; i < 4; i++) {
                int kind = random.nextInt(10) == 0 ? random.nextInt(13) : random.nextInt(7);
                all = all << 8 | kind * 20 + random.nextInt(Math.max(1, model.books.size()));
            }
            return all;
        }

        private void memory() {
            switch (random.nextInt(4)) {
                case 0: ask("keep", some(3)); break;
                case 1: ask("again", some(3)); break;
                default: ask("count", random.nextInt(9) - 1); break;
            }
        }

        private void ask(String name, int... args) {
            if (stop) {
                return;
            }
            seen.merge(name, 1, Integer::sum);
            long want = model.call(name, args);
            long got = real(name, args);
            told.append("  ").append(name).append(java.util.Arrays.toString(args)).append(" = ").append(got).append('\n');
            seen.merge(name + (want > 4 ? " more" : want == Model.THROWS ? " throws" : " " + want), 1, Integer::sum);
            check(name, got, want);
            for (int i = 0; i <= model.row.size() && !stop; i++) {
                check("row(" + i + ") behind " + name, real("row", i), model.call("row", i));
            }
            for (int i = 0; i < 7 && !stop; i++) {
                check("count(" + i + ") behind " + name, real("count", i), model.call("count", i));
            }
            for (int i = 0; i < 3 && !stop; i++) {
                check("open(" + i + ") behind " + name, real("open", i), model.call("open", i));
            }
        }

        private void check(String what, long got, long want) {
            if (got != want && !stop) {
                wrong++;
                stop = true;
                System.out.println("run " + run + ":\n" + told + what + " answered " + got + ", due is " + want
                        + "\n texts " + model.books + " rule " + model.rule);
            }
        }

        private long real(String name, int... a) {
            try {
                switch (name) {
                    case "sign": return real.sign(a[0]);
                    case "end": return real.end(a[0]) ? 1 : 0;
                    case "book": return real.book(a[0]);
                    case "rule": return real.rule();
                    case "set": return real.set(a[0], a[1], a[2]);
                    case "sheet": return real.sheet(a[0], a[1], a[2], a[3]);
                    case "about": return real.about(a[0], a[1]);
                    case "open": return real.open(a[0]);
                    case "value": return real.value(a[0], a[1]);
                    case "act": return real.act(a[0]);
                    case "why": return real.why(a[0]);
                    case "can": return real.can();
                    case "night": return real.night(a[0]);
                    case "judge": return real.judge(a[0], a[1], a[2]);
                    case "reader": return real.reader(a[0], a[1]);
                    case "sit": return real.sit(a[0], a[1]);
                    case "read": return real.read(a[0], a[1]);
                    case "of": return real.of(a[0], a[1]);
                    case "hours": return real.hours(a[0]);
                    case "log": return real.log(a[0]);
                    case "order": return real.order();
                    case "ring": return real.ring();
                    case "needs": return real.needs(a[0], a[1]);
                    case "bars": return real.bars(a[0], a[1]);
                    case "least": return real.least(a[0], a[1]);
                    case "knot": return real.knot(a[0]);
                    case "hold": return real.hold(a[0]);
                    case "comes": return real.comes(a[0]);
                    case "together": return real.together(a[0], a[1]);
                    case "frees": return real.frees(a[0]);
                    case "keeps": return real.keeps(a[0], a[1]);
                    case "finish": return real.finish(a[0], a[1]);
                    case "reach": return real.reach();
                    case "soonest": return real.soonest(a[0]);
                    case "till": return real.till(a[0], a[1], a[2]);
                    case "lost": return real.lost();
                    case "free": return real.free();
                    case "keep": return real.keep(a[0]) ? 1 : 0;
                    case "again": return real.again(a[0]) ? 1 : 0;
                    case "count": return real.count(a[0]);
                    case "row": return real.row(a[0]);
                    default: throw new IllegalArgumentException(name);
                }
            } catch (NoSuchElementException e) {
                return Model.THROWS;
            }
        }
    }

    // ---------------------------------------------------------------- the second telling

    private static final class ModelBook {
        String first = "";
        String second = null;
        int wanted = 0;
        int limit = 99;
        int opened = 0;

        @Override
        public String toString() {
            return first + (second == null ? "" : ";" + wanted + ";" + second) + " (limit " + limit + ", opened " + opened + ")";
        }
    }

    private static final class ModelReader {
        int told;
        int table;
        TreeSet<Integer> list = new TreeSet<>();
        TreeSet<Integer> read = new TreeSet<>();
    }

    private static final class Snapshot {
        List<TreeSet<Integer>> open = new ArrayList<>();
        List<Integer> opened = new ArrayList<>();
        List<Integer> tables = new ArrayList<>();
        List<TreeSet<Integer>> read = new ArrayList<>();
        int hours;
        List<Integer> log = new ArrayList<>();
    }

    private static final class Model {
        static final long THROWS = Long.MIN_VALUE;

        final List<ModelBook> books = new ArrayList<>();
        final List<ModelReader> readers = new ArrayList<>();
        List<TreeSet<Integer>> open = new ArrayList<>();
        final int[] room = {3, 3, 3};
        String text = "";
        String rule = "";
        int hours = 0;
        List<Integer> log = new ArrayList<>();
        List<Integer> row = new ArrayList<>();
        final Snapshot[] kept = new Snapshot[3];

        Model() {
            for (int i = 0; i < 3; i++) {
                open.add(new TreeSet<>());
            }
        }

        // ---- texts

        /** Where a sign can't stand, sign by sign: what is awaited, and for each open ( whether < > = was there. */
        static int fault(String whole, int most, boolean two) {
            String text = whole.length() > most ? whole.substring(0, most) : whole;
            List<Boolean> compared = new ArrayList<>(List.of(false));
            String mode = "want";
            boolean second = false;
            for (int p = 0; p < text.length(); p++) {
                char c = text.charAt(p);
                int top = compared.size() - 1;
                if (mode.equals("want")) {
                    if (c == '!') {
                        continue;
                    } else if (c == '(' && compared.size() < 5) {
                        compared.add(false);
                    } else if (Character.isDigit(c) && c < 128) {
                        mode = "digit";
                    } else if ("abcdefghijklnrt".indexOf(c) >= 0) {
                        mode = "behind";
                    } else {
                        return p;
                    }
                } else if (mode.equals("number")) {
                    if ("123456".indexOf(c) < 0) {
                        return p;
                    }
                    mode = ";";
                } else if (mode.equals(";")) {
                    if (c != ';') {
                        return p;
                    }
                    second = true;
                    compared.set(0, false);
                    mode = "want";
                } else if (mode.equals("digit") && c >= '0' && c <= '9') {
                    mode = "behind";
                } else if (c == '|' || c == '&') {
                    compared.set(top, false);
                    mode = "want";
                } else if (c == '+' || c == '-') {
                    mode = "want";
                } else if ("<>=".indexOf(c) >= 0 && !compared.get(top)) {
                    compared.set(top, true);
                    mode = "want";
                } else if (c == ')' && top > 0) {
                    compared.remove(top);
                    mode = "behind";
                } else if (c == ';' && top == 0 && two && !second) {
                    mode = "number";
                } else {
                    return p;
                }
            }
            boolean ends = compared.size() == 1 && (mode.equals("digit") || mode.equals("behind"));
            return ends && whole.length() <= most ? -1 : text.length();
        }

        /** The last (or first) place of one of these signs that stands in no ( ). */
        private static int split(String text, String signs, boolean last) {
            int deep = 0;
            int found = -1;
            for (int i = 0; i < text.length(); i++) {
                char c = text.charAt(i);
                deep += c == '(' ? 1 : c == ')' ? -1 : 0;
                if (deep == 0 && signs.indexOf(c) >= 0 && (last || found < 0)) {
                    found = i;
                }
            }
            return found;
        }

        static int evaluate(String text, Set<Integer> set, int told, int table) {
            for (String signs : new String[] {"|", "&", "<>=", "+-"}) {
                int at = split(text, signs, true);
                if (at >= 0) {
                    int left = evaluate(text.substring(0, at), set, told, table);
                    int right = evaluate(text.substring(at + 1), set, told, table);
                    switch (text.charAt(at)) {
                        case '|': return left != 0 | right != 0 ? 1 : 0;
                        case '&': return left != 0 & right != 0 ? 1 : 0;
                        case '<': return left < right ? 1 : 0;
                        case '>': return left > right ? 1 : 0;
                        case '=': return left == right ? 1 : 0;
                        case '+': return left + right;
                        default: return left - right;
                    }
                }
            }
            if (text.startsWith("!")) {
                return evaluate(text.substring(1), set, told, table) == 0 ? 1 : 0;
            }
            if (text.startsWith("(")) {
                return evaluate(text.substring(1, text.length() - 1), set, told, table);
            }
            switch (text) {
                case "n": return set.size();
                case "r": return told;
                case "t": return table;
                default: break;
            }
            char c = text.charAt(0);
            return c >= 'a' ? set.contains(c - 'a') ? 1 : 0 : Integer.parseInt(text);
        }

        // ---- what is so

        boolean noBook(int i) {
            return i < 0 || i >= books.size();
        }

        boolean noTable(int i) {
            return i < 0 || i > 2;
        }

        boolean noReader(int i) {
            return i < 0 || i >= readers.size();
        }

        boolean noBits(int bits, int many) {
            return bits < 0 || bits >= 1 << many;
        }

        int mask(Set<Integer> set) {
            int bits = 0;
            for (int i : set) {
                bits |= 1 << i;
            }
            return bits;
        }

        TreeSet<Integer> setOf(int bits) {
            TreeSet<Integer> set = new TreeSet<>();
            for (int i = 0; i < 31; i++) {
                if ((bits >> i & 1) == 1) {
                    set.add(i);
                }
            }
            return set;
        }

        int readBy(int book) {
            int many = 0;
            for (ModelReader reader : readers) {
                many += reader.read.contains(book) ? 1 : 0;
            }
            return many;
        }

        boolean later(int book) {
            return books.get(book).second != null && readBy(book) >= books.get(book).wanted;
        }

        int worth(int book, Set<Integer> set, int table) {
            String condition = later(book) ? books.get(book).second : books.get(book).first;
            return evaluate(condition, set, readBy(book), table);
        }

        /** Only within one call: who MAY be does not change while a question is asked. */
        private final Map<Long, Boolean> may = new HashMap<>();

        boolean may(int book, Set<Integer> set, int table) {
            long key = (long) mask(set) << 8 | book << 2 | table;
            Boolean known = may.get(key);
            if (known == null) {
                known = worth(book, set, table) != 0;
                may.put(key, known);
            }
            return known;
        }

        void settle(List<TreeSet<Integer>> state, int table) {
            while (true) {
                TreeSet<Integer> stay = new TreeSet<>();
                for (int book : state.get(table)) {
                    if (may(book, state.get(table), table)) {
                        stay.add(book);
                    }
                }
                if (stay.equals(state.get(table))) {
                    return;
                }
                state.set(table, stay);
            }
        }

        List<TreeSet<Integer>> copy(List<TreeSet<Integer>> state) {
            List<TreeSet<Integer>> other = new ArrayList<>();
            for (TreeSet<Integer> set : state) {
                other.add(new TreeSet<>(set));
            }
            return other;
        }

        List<TreeSet<Integer>> nothing() {
            return new ArrayList<>(List.of(new TreeSet<>(), new TreeSet<>(), new TreeSet<>()));
        }

        int where(List<TreeSet<Integer>> state, int book) {
            for (int table = 0; table < 3; table++) {
                if (state.get(table).contains(book)) {
                    return table;
                }
            }
            return -1;
        }

        TreeSet<Integer> all(List<TreeSet<Integer>> state) {
            TreeSet<Integer> set = new TreeSet<>();
            for (TreeSet<Integer> one : state) {
                set.addAll(one);
            }
            return set;
        }

        int[] openedNow() {
            int[] opened = new int[books.size()];
            for (int i = 0; i < opened.length; i++) {
                opened[i] = books.get(i).opened;
            }
            return opened;
        }

        int why(List<TreeSet<Integer>> state, int[] opened, int act) {
            if (act >= 0 && act < 60 && !noBook(act % 20)) {
                int book = act % 20;
                int table = act / 20;
                return where(state, book) >= 0 ? -2 : opened[book] >= books.get(book).limit ? -3
                        : state.get(table).size() >= room[table] ? -4 : may(book, state.get(table), table) ? 0 : -5;
            }
            if (act >= 60 && act < 80 && !noBook(act - 60)) {
                return where(state, act - 60) < 0 ? -2 : 0;
            }
            if (act >= 80 && act < 140 && !noBook(act % 20)) {
                int book = act % 20;
                int table = (act - 80) / 20;
                int at = where(state, book);
                return at < 0 || at == table ? -2 : state.get(table).size() >= room[table] ? -4
                        : may(book, state.get(table), table) ? 0 : -5;
            }
            return NONE;
        }

        /** Makes it: what settled shut. */
        TreeSet<Integer> make(List<TreeSet<Integer>> state, int[] opened, int act) {
            int book = act % 20;
            TreeSet<Integer> before = all(state);
            if (act < 60) {
                opened[book]++;
                state.get(act / 20).add(book);
                before.add(book);
                settle(state, act / 20);
            } else {
                int at = where(state, book);
                state.get(at).remove(book);
                settle(state, at);
                if (act >= 80) {
                    state.get((act - 80) / 20).add(book);
                    settle(state, (act - 80) / 20);
                } else {
                    before.remove(book);
                }
            }
            before.removeAll(all(state));
            return before;
        }

        int makeNow(int act) {
            int[] opened = openedNow();
            int gone = mask(make(open, opened, act));
            for (int i = 0; i < opened.length; i++) {
                books.get(i).opened = opened[i];
            }
            return gone;
        }

        // ---- searches: level by level, each state with the least of its rows of as few acts

        private Map<List<TreeSet<Integer>>, List<Integer>> search(List<TreeSet<Integer>> start, int only) {
            Map<List<TreeSet<Integer>>, List<Integer>> found = new LinkedHashMap<>();
            Map<List<TreeSet<Integer>>, List<Integer>> level = new HashMap<>();
            level.put(copy(start), new ArrayList<>());
            int[] opened = openedNow();
            while (!level.isEmpty()) {
                List<Map.Entry<List<TreeSet<Integer>>, List<Integer>>> sorted = new ArrayList<>(level.entrySet());
                sorted.sort((x, y) -> compare(x.getValue(), y.getValue()));
                for (Map.Entry<List<TreeSet<Integer>>, List<Integer>> entry : sorted) {
                    found.put(entry.getKey(), entry.getValue());
                }
                if (only < 0 && found.size() > 5000) {
                    return null;
                }
                Map<List<TreeSet<Integer>>, List<Integer>> next = new HashMap<>();
                for (List<TreeSet<Integer>> state : level.keySet()) {
                    for (int act : actsFrom(state, opened, only)) {
                        List<TreeSet<Integer>> then = copy(state);
                        make(then, opened.clone(), act);
                        if (!found.containsKey(then)) {
                            List<Integer> way = new ArrayList<>(level.get(state));
                            way.add(act);
                            List<Integer> known = next.get(then);
                            if (known == null || compare(way, known) < 0) {
                                next.put(then, way);
                            }
                        }
                    }
                }
                level = next;
            }
            return found;
        }

        private List<Integer> actsFrom(List<TreeSet<Integer>> state, int[] opened, int only) {
            List<Integer> acts = new ArrayList<>();
            for (int act = 0; act < 140; act++) {
                if (only >= 0 && act / 20 != only && act / 20 != 3) {
                    continue;
                }
                if (why(state, opened, act) == 0) {
                    acts.add(act);
                }
            }
            return acts;
        }

        private static int compare(List<Integer> x, List<Integer> y) {
            for (int i = 0; i < x.size() && i < y.size(); i++) {
                if (!x.get(i).equals(y.get(i))) {
                    return x.get(i) - y.get(i);
                }
            }
            return x.size() - y.size();
        }

        private TreeSet<Integer> ever(Map<List<TreeSet<Integer>>, List<Integer>> found) {
            TreeSet<Integer> set = new TreeSet<>();
            for (List<TreeSet<Integer>> state : found.keySet()) {
                set.addAll(all(state));
            }
            return set;
        }

        private int farthest(Map<List<TreeSet<Integer>>, List<Integer>> found) {
            int most = 0;
            for (List<Integer> way : found.values()) {
                most = Math.max(most, way.size());
            }
            return most;
        }

        private void tell(int... numbers) {
            row = new ArrayList<>();
            for (int number : numbers) {
                row.add(number);
            }
        }

        private int tellWay(List<Integer> way) {
            row = new ArrayList<>(way.subList(0, Math.min(10, way.size())));
            return way.size();
        }

        // ---- calls

        long call(String name, int... a) {
            may.clear();
            switch (name) {
                case "sign": return sign(a[0]);
                case "end":
                    if (a[0] < 0 || a[0] > text.length()) {
                        return 0;
                    }
                    text = text.substring(0, a[0]);
                    return 1;
                case "book": return book(a[0]);
                case "rule": return rule();
                case "set": return set(a[0], a[1], a[2]);
                case "sheet": return sheet(a[0], a[1], a[2], a[3]);
                case "about": return about(a[0], a[1]);
                case "open": return noTable(a[0]) ? NONE : mask(open.get(a[0]));
                case "value": return noBook(a[0]) || noTable(a[1]) ? THROWS : worth(a[0], open.get(a[1]), a[1]);
                case "act": {
                    int why = why(open, openedNow(), a[0]);
                    return why != 0 ? why : makeNow(a[0]);
                }
                case "why": return why(open, openedNow(), a[0]);
                case "can": return can();
                case "night":
                    if (noBits(a[0], books.size())) {
                        return NONE;
                    }
                    for (int t = 0; t < 3; t++) {
                        open.get(t).retainAll(setOf(a[0]));
                    }
                    for (int t = 0; t < 3; t++) {
                        settle(open, t);
                    }
                    return mask(all(open));
                case "judge": return judge(a[0], a[1], a[2]);
                case "row": return a[0] < 0 || a[0] >= row.size() ? THROWS : row.get(a[0]);
                case "count": return count(a[0]);
                case "keep": return keep(a[0]);
                case "again": return again(a[0]);
                default: return ofReaders(name, a);
            }
        }

        private long sign(int v) {
            if (text.length() > 76) {
                return NONE;
            }
            for (int k = 3; k >= 0; k--) {
                text += (char) (v >> 8 * k & 0xff);
            }
            return text.length();
        }

        private long book(int i) {
            String told = text;
            text = "";
            if (i == 12 ? books.size() == 12 : noBook(i)) {
                return -100;
            }
            int fault = fault(told, 60, true);
            if (fault >= 0) {
                return -1 - fault;
            }
            if (i == 12) {
                books.add(new ModelBook());
            }
            int number = i == 12 ? books.size() - 1 : i;
            ModelBook book = books.get(number);
            String[] parts = told.split(";");
            book.first = parts[0];
            book.wanted = parts.length > 1 ? Integer.parseInt(parts[1]) : 0;
            book.second = parts.length > 1 ? parts[2] : null;
            int at = where(open, number);
            if (at >= 0) {
                settle(open, at);
            }
            return number;
        }

        private long rule() {
            String told = text;
            text = "";
            int fault = told.isEmpty() ? -1 : fault(told, 40, false);
            if (fault >= 0) {
                return -1 - fault;
            }
            rule = told;
            return 0;
        }

        private long set(int what, int i, int v) {
            if (what == 0 && !noBook(i) && v >= 0 && v <= 99) {
                int was = books.get(i).limit;
                books.get(i).limit = v;
                return was;
            }
            if (what == 1 && !noTable(i) && v >= 1 && v <= 6) {
                int was = room[i];
                room[i] = v;
                return was;
            }
            return NONE;
        }

        private long sheet(int kind, int n, int f, int step) {
            if (kind < 0 || kind > 3 || n > 12) {
                return NONE;
            }
            if (kind != 3 && n < 0) {
                return -2;
            }
            long sum = 0;
            int entry = f;
            for (int i = 0; i < books.size(); i++) {
                int limit = 99;
                if (kind != 3 && i < n) {
                    int shift = kind == 0 ? 24 : kind == 1 ? 16 : 0;
                    int held = entry << shift >> shift;
                    limit = held < 0 ? 0 : held > 99 ? 99 : held;
                }
                entry += step;
                books.get(i).limit = limit;
                sum += limit;
            }
            return kind == 3 ? -3 : sum;
        }

        private long about(int i, int what) {
            if (noBook(i)) {
                return THROWS;
            }
            switch (what) {
                case 0: return books.get(i).limit;
                case 1: return books.get(i).opened;
                case 2: return where(open, i);
                case 3: return readBy(i);
                case 4: return later(i) ? 1 : 0;
                default: return THROWS;
            }
        }

        private long can() {
            List<Integer> could = new ArrayList<>();
            for (int act = 0; act < 140; act++) {
                if ((act < 60 || act >= 80) && why(open, openedNow(), act) == 0) {
                    could.add(act);
                }
            }
            row = new ArrayList<>(could.subList(0, Math.min(8, could.size())));
            return could.size();
        }

        private long judge(int n, int a, int b) {
            if (n < 0 || n > 8) {
                return NONE;
            }
            List<TreeSet<Integer>> state = copy(open);
            int[] opened = openedNow();
            int first = -2;
            long acts = (long) b << 32 | a & 0xffffffffL;
            for (int k = 0; k < n; k++) {
                int act = (int) (acts >>> 8 * k & 255);
                if (why(state, opened, act) != 0) {
                    first = k;
                    break;
                }
                make(state, opened, act);
            }
            tell(mask(state.get(0)), mask(state.get(1)), mask(state.get(2)));
            return first;
        }

        private long count(int what) {
            switch (what) {
                case 0: return books.size();
                case 1: return readers.size();
                case 2: return hours;
                case 3: return mask(all(open));
                case 4: return Math.min(60, log.size());
                case 5: return row.size();
                case 6: return text.length();
                default: return NONE;
            }
        }

        private long keep(int i) {
            if (i < 0 || i > 2) {
                return 0;
            }
            Snapshot snapshot = new Snapshot();
            snapshot.open = copy(open);
            for (ModelBook book : books) {
                snapshot.opened.add(book.opened);
            }
            for (ModelReader reader : readers) {
                snapshot.tables.add(reader.table);
                snapshot.read.add(new TreeSet<>(reader.read));
            }
            snapshot.hours = hours;
            snapshot.log = new ArrayList<>(log);
            kept[i] = snapshot;
            return 1;
        }

        private long again(int i) {
            if (i < 0 || i > 2 || kept[i] == null) {
                return 0;
            }
            Snapshot snapshot = kept[i];
            open = copy(snapshot.open);
            for (int k = 0; k < books.size(); k++) {
                books.get(k).opened = k < snapshot.opened.size() ? snapshot.opened.get(k) : 0;
            }
            for (int k = 0; k < readers.size(); k++) {
                boolean was = k < snapshot.tables.size();
                readers.get(k).table = was ? snapshot.tables.get(k) : readers.get(k).told;
                readers.get(k).read = was ? new TreeSet<>(snapshot.read.get(k)) : new TreeSet<>();
            }
            hours = snapshot.hours;
            log = new ArrayList<>(snapshot.log);
            return 1;
        }

        private long ofReaders(String name, int... a) {
            switch (name) {
                case "reader": {
                    if (noTable(a[0]) || noBits(a[1], books.size()) || readers.size() == 6) {
                        return NONE;
                    }
                    ModelReader reader = new ModelReader();
                    reader.told = a[0];
                    reader.table = a[0];
                    reader.list = setOf(a[1]);
                    readers.add(reader);
                    return readers.size() - 1;
                }
                case "sit": {
                    if (noReader(a[0]) || noTable(a[1])) {
                        return NONE;
                    }
                    int was = readers.get(a[0]).table;
                    readers.get(a[0]).table = a[1];
                    return was;
                }
                case "read": {
                    if (noReader(a[0]) || noBook(a[1])) {
                        return NONE;
                    }
                    ModelReader reader = readers.get(a[0]);
                    if (!open.get(reader.table).contains(a[1])) {
                        return -2;
                    }
                    readIt(reader, a[1]);
                    return readBy(a[1]);
                }
                case "of": {
                    if (noReader(a[0])) {
                        return THROWS;
                    }
                    ModelReader reader = readers.get(a[0]);
                    switch (a[1]) {
                        case 0: return reader.table;
                        case 1: return mask(reader.list);
                        case 2: return mask(reader.read);
                        case 3: return mask(left(reader));
                        default: return THROWS;
                    }
                }
                case "hours": return hoursGo(a[0]);
                case "log": return a[0] < 0 ? NONE : a[0] >= Math.min(60, log.size()) ? -2 : log.get(log.size() - 1 - a[0]);
                case "order":
                    row = new ArrayList<>(order());
                    return row.size();
                case "ring": return ring();
                default: return ofBooks(name, a);
            }
        }

        private TreeSet<Integer> left(ModelReader reader) {
            TreeSet<Integer> left = new TreeSet<>(reader.list);
            left.removeAll(reader.read);
            return left;
        }

        private void readIt(ModelReader reader, int book) {
            reader.read.add(book);
            may.clear();
            settle(open, reader.table);
        }

        private List<Integer> order() {
            List<Integer> order = new ArrayList<>();
            List<Integer> worths = new ArrayList<>();
            for (int i = 0; i < readers.size(); i++) {
                ModelReader reader = readers.get(i);
                worths.add(rule.isEmpty() ? 0 : evaluate(rule, open.get(reader.table), reader.read.size(), reader.table));
                order.add(i);
            }
            order.sort((x, y) -> worths.get(x).equals(worths.get(y)) ? x - y : worths.get(y) - worths.get(x));
            return order;
        }

        private long hoursGo(int n) {
            if (n < 0 || n > 50) {
                return NONE;
            }
            boolean idle = false;
            int done = 0;
            for (; done < n && !idle; done++) {
                idle = true;
                for (int who : order()) {
                    int entry = turn(readers.get(who));
                    idle &= entry < 20;
                    log.add(100 * who + entry);
                }
                hours++;
            }
            int content = 0;
            for (int i = 0; i < readers.size(); i++) {
                content |= left(readers.get(i)).isEmpty() ? 1 << i : 0;
            }
            tell(idle ? 1 : 0, content);
            return done;
        }

        private int turn(ModelReader reader) {
            TreeSet<Integer> left = left(reader);
            for (int book : left) {
                if (open.get(reader.table).contains(book)) {
                    readIt(reader, book);
                    return 20 + book;
                }
            }
            for (int book : left) {
                if (why(open, openedNow(), 20 * reader.table + book) == 0) {
                    makeNow(20 * reader.table + book);
                    return 40 + book;
                }
            }
            for (int kind : new int[] {reader.table, 3}) {
                for (int book = 0; book < books.size(); book++) {
                    boolean asked = kind < 3 || where(open, book) == reader.table;
                    if (asked && why(open, openedNow(), 20 * kind + book) == 0) {
                        List<TreeSet<Integer>> then = copy(open);
                        int[] opened = openedNow();
                        make(then, opened, 20 * kind + book);
                        for (int wish : left) {
                            if (why(then, opened, 20 * reader.table + wish) == 0) {
                                makeNow(20 * kind + book);
                                return (kind < 3 ? 40 : 60) + book;
                            }
                        }
                    }
                }
            }
            return 0;
        }

        /** All rings, by trying each row of different ones. */
        private List<Integer> rings(boolean[][] ahead, int many) {
            for (int length = 1; length <= many; length++) {
                List<Integer> found = rings(ahead, many, length, new ArrayList<>());
                if (found != null) {
                    return found;
                }
            }
            return null;
        }

        private List<Integer> rings(boolean[][] ahead, int many, int length, List<Integer> begun) {
            int size = begun.size();
            if (size == length) {
                return ahead[begun.get(size - 1)][begun.get(0)] ? begun : null;
            }
            for (int next = size == 0 ? 0 : begun.get(0) + 1; next < many; next++) {
                if (!begun.contains(next) && (size == 0 || ahead[begun.get(size - 1)][next])) {
                    List<Integer> more = new ArrayList<>(begun);
                    more.add(next);
                    List<Integer> found = rings(ahead, many, length, more);
                    if (found != null) {
                        return found;
                    }
                }
            }
            return null;
        }

        private long tellRing(List<Integer> ring) {
            if (ring == null) {
                return 0;
            }
            row = new ArrayList<>(ring);
            return ring.size();
        }

        private long ring() {
            int many = readers.size();
            boolean[][] ahead = new boolean[many][many];
            for (int i = 0; i < many; i++) {
                for (int k = 0; k < many; k++) {
                    ModelReader one = readers.get(i);
                    ModelReader other = readers.get(k);
                    TreeSet<Integer> common = left(one);
                    common.retainAll(open.get(other.table));
                    ahead[i][k] = i != k && one.table != other.table && !common.isEmpty();
                }
            }
            return tellRing(rings(ahead, many));
        }

        // ---- what one book needs

        /** Sets of others by which it MAY be there, as bits. */
        private List<Integer> ways(int book, int table) {
            List<Integer> ways = new ArrayList<>();
            for (int bits = 0; bits < 1 << books.size(); bits++) {
                TreeSet<Integer> set = setOf(bits);
                if (!set.contains(book) && set.size() <= room[table] - 1 && may(book, set, table)) {
                    ways.add(bits);
                }
            }
            return ways;
        }

        private int others(int book) {
            return (1 << books.size()) - 1 - (1 << book);
        }

        private int needs(int book, int table) {
            int needs = others(book);
            for (int way : ways(book, table)) {
                needs &= way;
            }
            return needs;
        }

        private long ofBooks(String name, int... a) {
            switch (name) {
                case "needs": return noBook(a[0]) || noTable(a[1]) ? NONE : needs(a[0], a[1]);
                case "bars": {
                    if (noBook(a[0]) || noTable(a[1])) {
                        return NONE;
                    }
                    int bars = others(a[0]);
                    for (int way : ways(a[0], a[1])) {
                        bars &= ~way;
                    }
                    return bars;
                }
                case "least": {
                    if (noBook(a[0]) || noTable(a[1])) {
                        return NONE;
                    }
                    List<Integer> ways = ways(a[0], a[1]);
                    for (int size = 0; size <= 12; size++) {
                        List<Integer> such = new ArrayList<>();
                        for (int way : ways) {
                            if (setOf(way).size() == size) {
                                such.add(way);
                            }
                        }
                        if (!such.isEmpty()) {
                            tell(such.get(0), such.size());
                            return size;
                        }
                    }
                    return -2;
                }
                case "knot": {
                    if (noTable(a[0])) {
                        return NONE;
                    }
                    int many = books.size();
                    boolean[][] ahead = new boolean[many][many];
                    for (int i = 0; i < many; i++) {
                        int needs = needs(i, a[0]);
                        for (int k = 0; k < many; k++) {
                            ahead[i][k] = (needs >> k & 1) == 1;
                        }
                        ahead[i][i] = ways(i, a[0]).isEmpty();
                    }
                    return tellRing(rings(ahead, many));
                }
                default: return ofTable(name, a);
            }
        }

        // ---- one table

        private long ofTable(String name, int... a) {
            if (List.of("hold", "comes", "together", "frees", "keeps", "finish").contains(name) && noTable(a[0])) {
                return NONE;
            }
            switch (name) {
                case "hold": {
                    int many = 0;
                    TreeSet<Integer> best = new TreeSet<>();
                    for (int bits = 0; bits < 1 << books.size(); bits++) {
                        TreeSet<Integer> set = setOf(bits);
                        List<TreeSet<Integer>> state = nothing();
                        state.set(a[0], new TreeSet<>(set));
                        settle(state, a[0]);
                        if (set.size() <= room[a[0]] && state.get(a[0]).equals(set)) {
                            many++;
                            best = set.size() > best.size() ? set : best;
                        }
                    }
                    tell(mask(best));
                    return many;
                }
                case "comes": {
                    Map<List<TreeSet<Integer>>, List<Integer>> found = search(nothing(), a[0]);
                    tell(mask(ever(found)), farthest(found));
                    return found.size();
                }
                case "together": {
                    if (noBits(a[1], books.size())) {
                        return NONE;
                    }
                    List<Integer> best = null;
                    for (Map.Entry<List<TreeSet<Integer>>, List<Integer>> e : search(nothing(), a[0]).entrySet()) {
                        if (e.getKey().get(a[0]).containsAll(setOf(a[1]))) {
                            best = better(best, e.getValue());
                        }
                    }
                    return best == null ? -2 : tellWay(best);
                }
                case "frees": return frees(a[0]);
                case "keeps": return noBits(a[1], books.size()) ? NONE : keeps(a[0], a[1]);
                case "finish": {
                    if (noBits(a[1], readers.size())) {
                        return NONE;
                    }
                    TreeSet<Integer> left = new TreeSet<>();
                    for (int i : setOf(a[1])) {
                        left.addAll(left(readers.get(i)));
                    }
                    left.removeAll(ever(search(nothing(), a[0])));
                    row = new ArrayList<>();
                    if (!left.isEmpty()) {
                        tell(mask(left));
                    }
                    return left.isEmpty() ? 1 : 0;
                }
                default: return ofAll(name, a);
            }
        }

        private static List<Integer> better(List<Integer> x, List<Integer> y) {
            return x == null || y.size() < x.size() || y.size() == x.size() && compare(y, x) < 0 ? y : x;
        }

        private long frees(int table) {
            if (books.isEmpty()) {
                return -2;
            }
            int best = -1;
            TreeSet<Integer> most = null;
            for (int book = 0; book < books.size(); book++) {
                List<TreeSet<Integer>> state = nothing();
                state.get(table).add(book);
                TreeSet<Integer> next = new TreeSet<>();
                for (int other = 0; other < books.size(); other++) {
                    if (why(state, openedNow(), 20 * table + other) == 0) {
                        next.add(other);
                    }
                }
                if (best < 0 || next.size() > most.size()) {
                    best = book;
                    most = next;
                }
            }
            tell(most.size(), mask(most));
            return best;
        }

        private long keeps(int table, int wanted) {
            Map<List<TreeSet<Integer>>, TreeSet<Integer>> known = new HashMap<>();
            for (int size = 0; size <= room[table]; size++) {
                for (int bits = 0; bits < 1 << books.size(); bits++) {
                    if (Integer.bitCount(bits) == size) {
                        List<TreeSet<Integer>> state = nothing();
                        state.set(table, setOf(bits));
                        settle(state, table);
                        TreeSet<Integer> ever = known.get(state);
                        if (ever == null) {
                            ever = ever(search(state, table));
                            known.put(copy(state), ever);
                        }
                        if (ever.containsAll(setOf(wanted))) {
                            tell(bits);
                            return size;
                        }
                    }
                }
            }
            return -2;
        }

        // ---- all tables

        private long ofAll(String name, int... a) {
            if (name.equals("soonest") && noBook(a[0])) {
                return NONE;
            }
            if (name.equals("till") && (noBits(a[0], books.size()) || noBits(a[1], books.size()) || noBits(a[2], books.size())
                    || Integer.bitCount(a[0]) + Integer.bitCount(a[1]) + Integer.bitCount(a[2]) != Integer.bitCount(a[0] | a[1] | a[2]))) {
                return NONE;
            }
            if (name.equals("lost")) {
                return lost();
            }
            Map<List<TreeSet<Integer>>, List<Integer>> found = search(open, -1);
            if (found == null) {
                return -3;
            }
            switch (name) {
                case "reach":
                    tell(mask(ever(found)), farthest(found));
                    return found.size();
                case "soonest": {
                    List<Integer> best = null;
                    for (Map.Entry<List<TreeSet<Integer>>, List<Integer>> e : found.entrySet()) {
                        if (where(e.getKey(), a[0]) >= 0) {
                            best = better(best, e.getValue());
                        }
                    }
                    return best == null ? -2 : tellWay(best);
                }
                case "till": {
                    List<Integer> way = found.get(List.of(setOf(a[0]), setOf(a[1]), setOf(a[2])));
                    return way == null ? -2 : tellWay(way);
                }
                case "free": return free(found);
                default: throw new IllegalArgumentException(name);
            }
        }

        private long lost() {
            int lost = 0;
            boolean many = false;
            for (int book : all(open)) {
                List<TreeSet<Integer>> state = copy(open);
                make(state, openedNow(), 60 + book);
                Map<List<TreeSet<Integer>>, List<Integer>> found = search(state, -1);
                if (found == null) {
                    many = true;
                } else if (!ever(found).contains(book)) {
                    lost |= 1 << book;
                }
            }
            return many ? -3 : lost;
        }

        private long free(Map<List<TreeSet<Integer>>, List<Integer>> found) {
            // who leads where, backwards: from the states that have a book on to all that lead to them
            Map<List<TreeSet<Integer>>, List<List<TreeSet<Integer>>>> back = new HashMap<>();
            int[] opened = openedNow();
            for (List<TreeSet<Integer>> state : found.keySet()) {
                for (int act : actsFrom(state, opened, -1)) {
                    List<TreeSet<Integer>> then = copy(state);
                    make(then, opened.clone(), act);
                    back.computeIfAbsent(then, k -> new ArrayList<>()).add(state);
                }
            }
            Map<List<TreeSet<Integer>>, TreeSet<Integer>> missing = new HashMap<>();
            for (int book : ever(found)) {
                Set<List<TreeSet<Integer>>> good = new HashSet<>();
                List<List<TreeSet<Integer>>> todo = new ArrayList<>();
                for (List<TreeSet<Integer>> state : found.keySet()) {
                    if (where(state, book) >= 0) {
                        good.add(state);
                        todo.add(state);
                    }
                }
                while (!todo.isEmpty()) {
                    for (List<TreeSet<Integer>> before : back.getOrDefault(todo.remove(todo.size() - 1), List.of())) {
                        if (good.add(before)) {
                            todo.add(before);
                        }
                    }
                }
                for (List<TreeSet<Integer>> state : found.keySet()) {
                    if (!good.contains(state)) {
                        missing.computeIfAbsent(state, k -> new TreeSet<>()).add(book);
                    }
                }
            }
            List<Integer> best = null;
            TreeSet<Integer> gone = null;
            for (Map.Entry<List<TreeSet<Integer>>, TreeSet<Integer>> e : missing.entrySet()) {
                List<Integer> way = found.get(e.getKey());
                if (better(best, way) == way) {
                    best = way;
                    gone = e.getValue();
                }
            }
            row = new ArrayList<>();
            if (best == null) {
                return 1;
            }
            tell(best.size(), mask(gone));
            return 0;
        }
    }
}
