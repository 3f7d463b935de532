import java.lang.reflect.Method;
import java.nio.charset.StandardCharsets;
import java.nio.file.Files;
import java.nio.file.Path;
import java.util.Map;
import java.util.regex.Matcher;
import java.util.regex.Pattern;

/** The code of README.md: put together it is one run, and each call answers what stands behind it. */
public final class Readme {

    private static final Pattern BLOCK = Pattern.compile("```java\n(.*?)```", Pattern.DOTALL);
    private static final Pattern CALL = Pattern.compile("(x\\.\\w+\\(.*\\)); +// (-?\\d+|true|false)(:.*)?");

    private static int asked = 0;

    public static void main(String[] args) throws Exception {
        String page = Files.readString(Path.of("README.md"), StandardCharsets.UTF_8);
        Map<String, byte[]> classes = Compiling.compiled("Page", source(page));
        if (classes == null) {
            System.out.println("the page's code can't be compiled");
            System.exit(1);
        }
        Method run = new Compiling.Classes(classes).loadClass("Page").getDeclaredMethod("run");
        run.setAccessible(true);
        int wrong = (Integer) run.invoke(null) + missing(page);
        System.out.println(wrong == 0 ? "all " + asked + " answers of the page are as due" : wrong + " are not as due");
        System.exit(wrong == 0 ? 0 : 1);
    }

    private static String source(String page) {
        StringBuilder members = new StringBuilder();
        StringBuilder run = new StringBuilder();
        Matcher block = BLOCK.matcher(page);
        while (block.find()) {
            boolean isMember = block.group(1).startsWith("static ");
            for (String line : block.group(1).split("\n")) {
                (isMember ? members : run).append(isMember ? line : asking(line)).append('\n');
            }
        }
        return "final class Page {\nstatic int wrong = 0;\n"
                + "static void due(String call, Object got, String want) {\n"
                + "if (!want.equals(\"\" + got)) { wrong++; System.out.println(call + \" answered \" + got + \", the page says \" + want); } }\n"
                + members + "static int run() {\n" + run + "return wrong;\n}\n}\n";
    }

    private static String asking(String line) {
        Matcher call = CALL.matcher(line);
        if (!call.matches()) {
            return line;
        }
        asked++;
        return "due(\"" + call.group(1) + "\", " + call.group(1) + ", \"" + call.group(2) + "\");";
    }

    /** How many calls of the face the page does not tell of, and how many that it shows have no answer told. */
    private static int missing(String page) {
        int missing = 0;
        for (Method method : BesideAnother.class.getDeclaredMethods()) {
            boolean isOfFace = java.lang.reflect.Modifier.isPublic(method.getModifiers());
            if (isOfFace && !page.contains("`" + method.getName() + "`")) {
                missing++;
                System.out.println("the page does not tell of " + method.getName());
            }
        }
        for (String line : page.split("\n")) {
            if (line.startsWith("x.") && !CALL.matcher(line).matches()) {
                missing++;
                System.out.println("no answer is told: " + line);
            }
        }
        return missing;
    }
}
