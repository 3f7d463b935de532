import java.lang.management.ManagementFactory;
import java.lang.reflect.Constructor;
import java.lang.reflect.Field;
import java.lang.reflect.Method;
import java.lang.reflect.Modifier;
import java.nio.charset.StandardCharsets;
import java.nio.file.Files;
import java.nio.file.Path;
import java.util.NoSuchElementException;
import java.util.Set;
import java.util.TreeSet;

/** The public face, what of ../shared/LANGUAGE.md can be looked up, and that calls make no objects. */
public final class Language {

    private static final String FACE = "about(int,int)! act(int) again(int) bars(int,int) book(int) can() comes(int) count(int) end(int) finish(int,int)"
            + " free() frees(int) hold(int) hours(int) judge(int,int,int) keep(int) keeps(int,int) knot(int) least(int,int) log(int) lost()"
            + " needs(int,int) night(int) of(int,int)! open(int) order() reach() read(int,int) reader(int,int) ring() row(int)! rule()"
            + " set(int,int,int) sheet(int,int,int,int) sign(int) sit(int,int) soonest(int) till(int,int,int) together(int,int)"
            + " value(int,int)! why(int)";
    private static final Set<String> TELL_BOOLEAN = Set.of("end", "keep", "again");

    private static int wrong = 0;

    private static void so(boolean so, String what) {
        if (!so) {
            wrong++;
            System.out.println("not so: " + what);
        }
    }

    public static void main(String[] args) throws Exception {
        face();
        for (Class<?> inside : BesideAnother.class.getDeclaredClasses()) {
            so(Modifier.isStatic(inside.getModifiers()) && !Modifier.isPublic(inside.getModifiers())
                    && !Modifier.isProtected(inside.getModifiers()), inside + " is static, not public");
            members(inside);
        }
        members(BesideAnother.class);
        so(BesideAnother.class.getDeclaredClasses().length < 12, "some twelve classes");
        source(Files.readString(Path.of("src/main/java/BesideAnother.java"), StandardCharsets.ISO_8859_1));
        objects();
        System.out.println(wrong == 0 ? "the language is kept" : wrong + " rules are broken");
        if (wrong != 0) {
            System.exit(1);
        }
    }

    private static void face() {
        Set<String> found = new TreeSet<>();
        for (Method method : BesideAnother.class.getDeclaredMethods()) {
            if (!Modifier.isPrivate(method.getModifiers())) {
                StringBuilder told = new StringBuilder(method.getName()).append('(');
                for (Class<?> type : method.getParameterTypes()) {
                    told.append(told.charAt(told.length() - 1) == '(' ? "" : ",").append(type);
                }
                told.append(')');
                for (Class<?> thrown : method.getExceptionTypes()) {
                    so(thrown == NoSuchElementException.class, method + " throws what is told");
                    told.append('!');
                }
                found.add(told.toString());
                so(method.getModifiers() == Modifier.PUBLIC, method + " is public, no more");
                so(method.getReturnType() == (TELL_BOOLEAN.contains(method.getName()) ? boolean.class : int.class), method + " tells what is told");
            }
        }
        so(found.equals(new TreeSet<>(Set.of(FACE.split(" ")))), "the face is the document's: " + found);
        Constructor<?>[] made = BesideAnother.class.getDeclaredConstructors();
        so(made.length == 1 && made[0].getModifiers() == Modifier.PUBLIC && made[0].getParameterCount() == 0, "one public constructor");
        so(BesideAnother.class.getModifiers() == (Modifier.PUBLIC | Modifier.FINAL), "public and final");
        for (Field field : BesideAnother.class.getDeclaredFields()) {
            so(Modifier.isPrivate(field.getModifiers()) || field.getName().equals("NONE"), field + " is private");
        }
    }

    private static void members(Class<?> type) {
        int fields = 0;
        for (Field field : type.getDeclaredFields()) {
            boolean fixed = Modifier.isStatic(field.getModifiers());
            so(!fixed || Modifier.isFinal(field.getModifiers()), field + " is final");
            fields += fixed ? 0 : 1;
        }
        so(fields <= 20, type + " has some twenty fields");
        for (Method method : type.getDeclaredMethods()) {
            so(method.getParameterCount() <= 7, method + " takes seven at most");
            boolean ofFace = type == BesideAnother.class && !Modifier.isPrivate(method.getModifiers());
            so(ofFace || !(" " + FACE).contains(" " + method.getName() + "("), method + " has a name of its own");
        }
    }

    private static void source(String source) {
        for (String no : new String[] {"->", "::", "catch", "try {", "finally", "synchronized", "assert", "package ", "interface ", "Math.random",
                "System.out", "System.nano", "System.current", "getClass", "hashCode", "toString", "Exact(", " Object", "instanceof", "\t"}) {
            so(!source.contains(no), "no " + no);
        }
        so(source.chars().allMatch(c -> c == '\n' || c >= 32 && c < 127), "plain signs");
        so(("\n" + source).split("\nimport ").length == 2 && source.contains("import java.util.NoSuchElementException;\n"), "one import");
        int begun = -1;
        String[] lines = source.split("\n");
        for (int i = 0; i < lines.length; i++) {
            so(lines[i].length() <= 130, "line " + (i + 1) + " is not long");
            if (lines[i].matches(" {4}( {4})?[a-z].*\\) (throws \\w+ )?\\{")) {
                begun = i;
            }
            if (lines[i].matches(" {4}( {4})?\\}") && begun >= 0) {
                so(i - begun < 60, "the method at line " + (begun + 1) + " is short");
                begun = -1;
            }
        }
    }

    /** What all calls of a run make is counted: none makes anything but the exception that it throws. */
    private static void objects() {
        com.sun.management.ThreadMXBean threads = (com.sun.management.ThreadMXBean) ManagementFactory.getThreadMXBean();
        BesideAnother x = new BesideAnother();
        long sum = calls(x, 20);
        long before = threads.getCurrentThreadAllocatedBytes();
        sum += calls(x, 100);
        long made = threads.getCurrentThreadAllocatedBytes() - before;
        so(made < 100000, "calls make nothing, not " + made + " bytes (" + sum + ")");
        before = threads.getCurrentThreadAllocatedBytes();
        x = new BesideAnother();
        made = threads.getCurrentThreadAllocatedBytes() - before;
        so(made < 2000000, "a new object is small, not " + made + " bytes (" + x.count(0) + ")");
    }

    private static long calls(BesideAnother x, int times) {
        long sum = 0;
        for (int i = 0; i < times; i++) {
            sum += x.sign('n' << 24 | '<' << 16 | '3' << 8) + (x.end(3) ? 1 : 0) + x.book(i < 8 ? 12 : i % 8);
            sum += x.sign('t' << 24) + (x.end(1) ? 1 : 0) + x.rule();
            sum += x.set(0, i % 8, 9) + x.sheet(i % 4, 5, 50, 3) + x.about(0, 1) + x.open(0) + x.value(0, 1);
            sum += x.act(i % 140) + x.why(i) + x.can() + x.judge(3, 0x010203, 0) + x.reader(i % 3, 1) + x.sit(0, i % 3) + x.read(0, 0);
            sum += x.of(0, 3) + x.hours(2) + x.log(3) + x.order() + x.ring() + x.needs(0, 0) + x.bars(0, 0) + x.least(0, 0) + x.knot(0);
            sum += x.hold(0) + x.comes(0) + x.together(0, 3) + x.frees(0) + x.keeps(0, 3) + x.finish(0, 1) + x.reach() + x.soonest(0);
            sum += x.till(1, 0, 0) + x.lost() + x.free() + (x.keep(i % 3) ? 1 : 0) + (x.again(i % 2) ? 1 : 0) + (x.count(5) > 0 ? x.row(0) : 0) + x.night(1);
        }
        return sum;
    }
}
