import java.io.ByteArrayOutputStream;
import java.io.IOException;
import java.io.InputStream;
import java.io.OutputStream;
import java.io.StringWriter;
import java.lang.reflect.Method;
import java.net.URI;
import java.nio.file.Files;
import java.nio.file.Path;
import java.util.ArrayList;
import java.util.HashMap;
import java.util.List;
import java.util.Map;
import java.util.concurrent.ExecutorService;
import java.util.concurrent.Executors;
import java.util.concurrent.Future;
import java.util.concurrent.TimeUnit;
import java.util.concurrent.TimeoutException;
import javax.tools.FileObject;
import javax.tools.ForwardingJavaFileManager;
import javax.tools.JavaCompiler;
import javax.tools.JavaFileManager;
import javax.tools.JavaFileObject;
import javax.tools.SimpleJavaFileObject;
import javax.tools.StandardJavaFileManager;
import javax.tools.ToolProvider;

/** Breaks the class as each test of a sentence says it can be broken: that very test must notice it. */
public final class MutantsTest {
    private static final Path SOURCE = Path.of("src/main/java/CrossbarHouse.java");
    private static final int SECONDS = 120;

    private MutantsTest() {
    }

    private record Mutant(String test, Broken broken) {
        int placeIn(String source) {
            int in = source.indexOf(broken.in());
            return in < 0 ? -1 : source.indexOf(broken.from(), in);
        }

        String of(String source) {
            int at = placeIn(source);
            return source.substring(0, at) + broken.to() + source.substring(at + broken.from().length());
        }

        String told() {
            return test + ", '" + broken.from() + "' as '" + broken.to() + "'";
        }
    }

    public static void main(String[] args) throws Exception {
        Due due = new Due("MutantsTest");
        String source = Files.readString(SOURCE);
        List<Mutant> mutants = new ArrayList<>();
        for (Method method : Sentences.all()) {
            for (Broken broken : method.getAnnotationsByType(Broken.class)) {
                mutants.add(new Mutant(Sentences.nameOf(method), broken));
            }
        }
        long found = mutants.stream().filter(m -> m.placeIn(source) >= 0).count();
        // a class that was written anew has other lines, of which the mutants say nothing
        if (2 * found < mutants.size()) {
            System.out.println("MutantsTest: the class was written anew, no mutant is tried");
            return;
        }
        List<Future<String>> answers = new ArrayList<>();
        ExecutorService workers = Executors.newFixedThreadPool(Runtime.getRuntime().availableProcessors(), r -> {
            Thread thread = new Thread(r);
            thread.setDaemon(true);
            return thread;
        });
        for (Mutant mutant : mutants) {
            answers.add(workers.submit(() -> answerOf(mutant, source)));
        }
        for (int k = 0; k < mutants.size(); k++) {
            String answer = answerWithin(answers.get(k));
            due.same(mutants.get(k).told() + ": " + answer, answer.equals("noticed"), true);
        }
        System.out.println("MutantsTest: " + mutants.size() + " mutants");
        due.end();
        System.exit(0);
    }

    private static String answerWithin(Future<String> answer) throws Exception {
        try {
            return answer.get(SECONDS, TimeUnit.SECONDS);
        } catch (TimeoutException late) {
            return "not noticed in time";
        }
    }

    private static String answerOf(Mutant mutant, String source) throws Exception {
        if (mutant.placeIn(source) < 0) {
            return "no such text in the class";
        }
        Map<String, byte[]> classes = compile(mutant.of(source));
        if (classes.isEmpty()) {
            return "does not compile";
        }
        Class<?> sentences = new MutantLoader(classes).loadClass("Sentences");
        Method wrongOf = sentences.getDeclaredMethod("wrongOf", String.class);
        wrongOf.setAccessible(true);
        return (int) wrongOf.invoke(null, mutant.test()) > 0 ? "noticed" : "not noticed";
    }

    private static Map<String, byte[]> compile(String source) throws IOException {
        JavaCompiler compiler = ToolProvider.getSystemJavaCompiler();
        Map<String, ByteArrayOutputStream> written = new HashMap<>();
        try (StandardJavaFileManager files = compiler.getStandardFileManager(null, null, null)) {
            JavaFileObject file = new SimpleJavaFileObject(URI.create("string:///CrossbarHouse.java"),
                    JavaFileObject.Kind.SOURCE) {
                @Override
                public CharSequence getCharContent(boolean ignored) {
                    return source;
                }
            };
            boolean isDone = compiler.getTask(new StringWriter(), new InMemory(files, written), null,
                List.of("-proc:none"), null, List.of(file)).call();
            Map<String, byte[]> classes = new HashMap<>();
            if (isDone) {
                written.forEach((name, bytes) -> classes.put(name, bytes.toByteArray()));
            }
            return classes;
        }
    }

    /** Keeps what is compiled as bytes. */
    private static final class InMemory extends ForwardingJavaFileManager<JavaFileManager> {
        private final Map<String, ByteArrayOutputStream> written;

        InMemory(JavaFileManager files, Map<String, ByteArrayOutputStream> written) {
            super(files);
            this.written = written;
        }

        @Override
        public JavaFileObject getJavaFileForOutput(Location location, String name, JavaFileObject.Kind kind,
                FileObject sibling) {
            return new SimpleJavaFileObject(URI.create("bytes:///" + name), kind) {
                @Override
                public OutputStream openOutputStream() {
                    ByteArrayOutputStream bytes = new ByteArrayOutputStream();
                    written.put(name, bytes);
                    return bytes;
                }
            };
        }
    }

    /** The tests anew, with the mutant in the place of the class. */
    private static final class MutantLoader extends ClassLoader {
        private final Map<String, byte[]> mutant;

        MutantLoader(Map<String, byte[]> mutant) {
            super(ClassLoader.getPlatformClassLoader());
            this.mutant = mutant;
        }

        @Override
        protected Class<?> findClass(String name) throws ClassNotFoundException {
            byte[] bytes = mutant.get(name);
            try (InputStream own = MutantsTest.class.getResourceAsStream("/" + name + ".class")) {
                if (bytes == null && own == null) {
                    throw new ClassNotFoundException(name);
                }
                byte[] all = bytes != null ? bytes : own.readAllBytes();
                return defineClass(name, all, 0, all.length);
            } catch (IOException unread) {
                throw new ClassNotFoundException(name, unread);
            }
        }
    }
}
