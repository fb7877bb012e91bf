import java.io.ByteArrayOutputStream;
import java.io.IOException;
import java.io.InputStream;
import java.io.OutputStream;
import java.io.Writer;
import java.net.URI;
import java.util.HashMap;
import java.util.List;
import java.util.Map;
import javax.tools.FileObject;
import javax.tools.ForwardingJavaFileManager;
import javax.tools.JavaCompiler;
import javax.tools.JavaFileManager;
import javax.tools.JavaFileObject;
import javax.tools.SimpleJavaFileObject;
import javax.tools.ToolProvider;

/** The program broken somewhere, and the tests once more, so that they meet it and not the whole one. */
final class BrokenProgram extends ClassLoader {
    private final Map<String, byte[]> classes;

    BrokenProgram(Map<String, byte[]> classes) {
        super(BrokenProgram.class.getClassLoader());
        this.classes = classes;
    }

    @Override
    protected Class<?> loadClass(String name, boolean resolve) throws ClassNotFoundException {
        synchronized (getClassLoadingLock(name)) {
            if (name.indexOf('.') >= 0) {
                return super.loadClass(name, resolve);
            }
            Class<?> found = findLoadedClass(name);
            return found != null ? found : define(name);
        }
    }

    private Class<?> define(String name) throws ClassNotFoundException {
        byte[] bytes = classes.get(name);
        if (bytes != null) {
            return defineClass(name, bytes, 0, bytes.length);
        }
        try (InputStream in = getParent().getResourceAsStream(name + ".class")) {
            if (in == null) {
                throw new ClassNotFoundException(name);
            }
            byte[] own = in.readAllBytes();
            return defineClass(name, own, 0, own.length);
        } catch (IOException e) {
            throw new ClassNotFoundException(name, e);
        }
    }

    /** The classes of a text by name, the text being that of the class so named; none, if it doesn't compile. */
    static Map<String, byte[]> compiled(String main, String source) {
        JavaCompiler compiler = ToolProvider.getSystemJavaCompiler();
        Map<String, ByteArrayOutputStream> made = new HashMap<>();
        JavaFileManager files = new Memory(compiler.getStandardFileManager(null, null, null), made);
        boolean fine = compiler.getTask(Writer.nullWriter(), files, diagnostic -> { }, List.of("-proc:none"), null,
                List.of(new Source(main, source))).call();
        Map<String, byte[]> classes = new HashMap<>();
        if (fine) {
            made.forEach((name, bytes) -> classes.put(name, bytes.toByteArray()));
        }
        return classes;
    }

    /** A class's text. */
    private static final class Source extends SimpleJavaFileObject {
        private final String text;

        Source(String main, String text) {
            super(URI.create("string:///" + main + ".java"), Kind.SOURCE);
            this.text = text;
        }

        @Override
        public CharSequence getCharContent(boolean ignoreErrors) {
            return text;
        }
    }

    /** Keeps what the compiler writes. */
    private static final class Memory extends ForwardingJavaFileManager<JavaFileManager> {
        private final Map<String, ByteArrayOutputStream> made;

        Memory(JavaFileManager files, Map<String, ByteArrayOutputStream> made) {
            super(files);
            this.made = made;
        }

        @Override
        public JavaFileObject getJavaFileForOutput(Location location, String name, JavaFileObject.Kind kind,
                FileObject sibling) {
            return new SimpleJavaFileObject(URI.create("string:///" + name + ".class"), kind) {
                @Override
                public OutputStream openOutputStream() {
                    ByteArrayOutputStream bytes = new ByteArrayOutputStream();
                    made.put(name, bytes);
                    return bytes;
                }
            };
        }
    }
}
