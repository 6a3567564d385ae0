import java.io.ByteArrayOutputStream;
import java.io.IOException;
import java.io.InputStream;
import java.io.OutputStream;
import java.io.StringWriter;
import java.net.URI;
import java.util.HashMap;
import java.util.List;
import java.util.Map;
import javax.tools.FileObject;
import javax.tools.ForwardingJavaFileManager;
import javax.tools.JavaCompiler;
import javax.tools.JavaFileManager;
import javax.tools.JavaFileObject;
import javax.tools.SimpleJavaFileObject;
import javax.tools.ToolProvider;

/**
 * A source that a test has made, compiled without a file. Its classes, and all others that have no package, are loaded
 * by this loader: so the tests themselves can be run on a class that was changed, with their counters at 0.
 */
final class Compiled extends ClassLoader {
    private final Map<String, byte[]> classes = new HashMap<>();

    Compiled(String name, String source) throws IOException {
        super(Compiled.class.getClassLoader());
        Map<String, ByteArrayOutputStream> written = new HashMap<>();
        StringWriter told = new StringWriter();
        JavaCompiler compiler = ToolProvider.getSystemJavaCompiler();
        try (JavaFileManager files = new InMemory(compiler.getStandardFileManager(null, null, null), written)) {
            if (!compiler.getTask(told, files, null, null, null, List.of(new Source(name, source))).call()) {
                throw new IllegalArgumentException(name + " does not compile: " + told);
            }
        }
        written.forEach((compiled, bytes) -> classes.put(compiled, bytes.toByteArray()));
    }

    @Override
    protected Class<?> loadClass(String name, boolean resolve) throws ClassNotFoundException {
        synchronized (getClassLoadingLock(name)) {
            Class<?> known = findLoadedClass(name);
            if (known != null || name.contains(".")) {
                return known != null ? known : super.loadClass(name, resolve);
            }
            byte[] bytes = classes.containsKey(name) ? classes.get(name) : asItIs(name);
            return defineClass(name, bytes, 0, bytes.length);
        }
    }

    private byte[] asItIs(String name) throws ClassNotFoundException {
        try (InputStream in = getParent().getResourceAsStream(name + ".class")) {
            if (in == null) {
                throw new ClassNotFoundException(name);
            }
            return in.readAllBytes();
        } catch (IOException e) {
            throw new ClassNotFoundException(name, e);
        }
    }

    private static final class Source extends SimpleJavaFileObject {
        private final String text;

        Source(String name, String text) {
            super(URI.create("memory:///" + name + ".java"), Kind.SOURCE);
            this.text = text;
        }

        @Override
        public CharSequence getCharContent(boolean ignoreErrors) {
            return text;
        }
    }

    private static final class InMemory extends ForwardingJavaFileManager<JavaFileManager> {
        private final Map<String, ByteArrayOutputStream> written;

        InMemory(JavaFileManager files, Map<String, ByteArrayOutputStream> written) {
            super(files);
            this.written = written;
        }

        @Override
        public JavaFileObject getJavaFileForOutput(Location location, String name, JavaFileObject.Kind kind, FileObject by) {
            return new SimpleJavaFileObject(URI.create("memory:///" + name.replace('$', '-')), kind) {
                @Override
                public OutputStream openOutputStream() {
                    ByteArrayOutputStream bytes = new ByteArrayOutputStream();
                    written.put(name, bytes);
                    return bytes;
                }
            };
        }
    }
}
