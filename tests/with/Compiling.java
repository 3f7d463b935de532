import java.io.ByteArrayOutputStream;
import java.io.IOException;
import java.io.OutputStream;
import java.net.URI;
import java.util.HashMap;
import java.util.List;
import java.util.Map;
import javax.tools.FileObject;
import javax.tools.ForwardingJavaFileManager;
import javax.tools.JavaCompiler;
import javax.tools.JavaFileManager;
import javax.tools.JavaFileObject;
import javax.tools.SimpleJavaFileObject;
import javax.tools.StandardJavaFileManager;
import javax.tools.ToolProvider;

/** Sources that tests make up are compiled and loaded in memory. */
final class Compiling {

    private Compiling() {
    }

    /** The classes of a source, which is told beside those of the test, or null if it can't be compiled. */
    static Map<String, byte[]> compiled(String name, String source) throws IOException {
        JavaCompiler compiler = ToolProvider.getSystemJavaCompiler();
        JavaFileObject file = new SimpleJavaFileObject(URI.create("string:///" + name + ".java"), JavaFileObject.Kind.SOURCE) {
            @Override
            public CharSequence getCharContent(boolean ignore) {
                return source;
            }
        };
        List<String> options = List.of("-proc:none", "-classpath", System.getProperty("java.class.path"));
        try (Memory memory = new Memory(compiler.getStandardFileManager(null, null, null))) {
            boolean good = compiler.getTask(null, memory, diagnostic -> { }, options, null, List.of(file)).call();
            return good ? memory.classes() : null;
        }
    }

    /** Keeps compiled classes as bytes. */
    private static final class Memory extends ForwardingJavaFileManager<StandardJavaFileManager> {
        private final Map<String, ByteArrayOutputStream> written = new HashMap<>();

        Memory(StandardJavaFileManager manager) {
            super(manager);
        }

        @Override
        public JavaFileObject getJavaFileForOutput(JavaFileManager.Location where, String name, JavaFileObject.Kind kind, FileObject near) {
            return new SimpleJavaFileObject(URI.create("memory:///" + name.replace('$', '-') + kind.extension), kind) {
                @Override
                public OutputStream openOutputStream() {
                    written.put(name, new ByteArrayOutputStream());
                    return written.get(name);
                }
            };
        }

        Map<String, byte[]> classes() {
            Map<String, byte[]> classes = new HashMap<>();
            written.forEach((name, bytes) -> classes.put(name, bytes.toByteArray()));
            return classes;
        }
    }

    /** These classes, apart from others of the same names; all others as the test has them. */
    static final class Classes extends ClassLoader {
        private final Map<String, byte[]> bytes;

        Classes(Map<String, byte[]> bytes) {
            super(Compiling.class.getClassLoader());
            this.bytes = bytes;
        }

        @Override
        protected Class<?> loadClass(String name, boolean resolve) throws ClassNotFoundException {
            synchronized (getClassLoadingLock(name)) {
                if (!bytes.containsKey(name)) {
                    return super.loadClass(name, resolve);
                }
                Class<?> known = findLoadedClass(name);
                return known != null ? known : defineClass(name, bytes.get(name), 0, bytes.get(name).length);
            }
        }
    }
}
