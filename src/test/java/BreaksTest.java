import java.io.ByteArrayOutputStream;
import java.io.IOException;
import java.io.InputStream;
import java.io.OutputStream;
import java.lang.reflect.Method;
import java.net.URI;
import java.nio.charset.StandardCharsets;
import java.nio.file.Files;
import java.nio.file.Paths;
import java.util.ArrayList;
import java.util.List;
import java.util.Map;
import java.util.Set;
import java.util.TreeMap;
import java.util.TreeSet;
import java.util.stream.Collectors;
import javax.tools.FileObject;
import javax.tools.ForwardingJavaFileManager;
import javax.tools.JavaCompiler;
import javax.tools.JavaFileManager;
import javax.tools.JavaFileObject;
import javax.tools.SimpleJavaFileObject;
import javax.tools.ToolProvider;

/** Breaks the class in each way that Breaks tells: the sentence's own answers must then not be as due. */
public final class BreaksTest {
    private static final JavaCompiler JAVAC = ToolProvider.getSystemJavaCompiler();

    /** The source as Breaks quotes it. */
    private static String source() throws IOException {
        String text = new String(Files.readAllBytes(Paths.get("src/main/java/ElectingWind.java")), StandardCharsets.UTF_8);
        return text.replaceAll("(?s)/\\*.*?\\*/", "").replaceAll("//[^\\n]*", "").replaceAll("\\s+", " ");
    }

    /** Classes as javac writes them, kept in memory. */
    private static final class Kept extends ForwardingJavaFileManager<JavaFileManager> {
        final Map<String, ByteArrayOutputStream> classes = new TreeMap<>();

        Kept() { super(JAVAC.getStandardFileManager(null, null, StandardCharsets.UTF_8)); }

        @Override public JavaFileObject getJavaFileForOutput(Location at, String name, JavaFileObject.Kind kind, FileObject by) {
            return new SimpleJavaFileObject(URI.create("kept:///" + name.replace('.', '/') + kind.extension), kind) {
                @Override public OutputStream openOutputStream() {
                    ByteArrayOutputStream bytes = new ByteArrayOutputStream();
                    classes.put(name, bytes);
                    return bytes;
                }
            };
        }
    }

    /** The tests' own classes once more, about the broken class. */
    private static final class Apart extends ClassLoader {
        private final Map<String, ByteArrayOutputStream> broken;

        Apart(Map<String, ByteArrayOutputStream> broken) {
            super(BreaksTest.class.getClassLoader());
            this.broken = broken;
        }

        @Override protected Class<?> loadClass(String name, boolean resolve) throws ClassNotFoundException {
            synchronized (getClassLoadingLock(name)) {
                Class<?> known = findLoadedClass(name);
                if (known != null) return known;
                if (name.indexOf('.') >= 0) return super.loadClass(name, resolve);
                byte[] bytes = broken.containsKey(name) ? broken.get(name).toByteArray() : own(name);
                return defineClass(name, bytes, 0, bytes.length);
            }
        }

        private byte[] own(String name) throws ClassNotFoundException {
            try (InputStream in = getParent().getResourceAsStream(name + ".class")) {
                if (in == null) throw new ClassNotFoundException(name);
                return in.readAllBytes();
            } catch (IOException e) {
                throw new ClassNotFoundException(name, e);
            }
        }
    }

    private static Map<String, ByteArrayOutputStream> compile(String source) {
        JavaFileObject file = new SimpleJavaFileObject(URI.create("kept:///ElectingWind.java"), JavaFileObject.Kind.SOURCE) {
            @Override public CharSequence getCharContent(boolean ignore) { return source; }
        };
        Kept kept = new Kept();
        boolean well = JAVAC.getTask(null, kept, null, List.of("-proc:none"), null, List.of(file)).call();
        return well ? kept.classes : null;
    }

    /** The sentences that the broken class breaks. */
    private static Set<?> sentencesBroken(Map<String, ByteArrayOutputStream> classes) throws ReflectiveOperationException {
        Method ask = new Apart(classes).loadClass("BoundsTest").getDeclaredMethod("ask");
        ask.setAccessible(true);
        Object sentences = ask.invoke(null);
        Method broken = sentences.getClass().getDeclaredMethod("broken");
        broken.setAccessible(true);
        return (Set<?>) broken.invoke(sentences);
    }

    private static String sentenceOf(Breaks.Break b, Set<String> sentences) {
        List<String> fit = sentences.stream().filter(s -> s.startsWith(Sentences.name(b.promise, b.words))).collect(Collectors.toList());
        return fit.size() == 1 ? fit.get(0) : "";
    }

    /** What is wrong with one break; nothing, if its sentence's answers are not as due. */
    private static String outcome(Breaks.Break b, String source, Set<String> sentences) {
        String what = "\"" + Sentences.name(b.promise, b.words) + "\" by " + b.to + " for " + b.from;
        String sentence = sentenceOf(b, sentences);
        if (sentence.isEmpty()) return what + ": which sentence is it?";
        int place = source.indexOf(b.from);
        if (place < 0 || source.indexOf(b.from, place + 1) >= 0) return what + ": the source does not say that just once";
        Map<String, ByteArrayOutputStream> classes = compile(source.replace(b.from, b.to));
        if (classes == null) return what + ": does not compile";
        try {
            return sentencesBroken(classes).contains(sentence) ? "" : what + ": all answers are still as due";
        } catch (ReflectiveOperationException e) {
            return what + ": " + e;
        }
    }

    public static void main(String[] args) throws IOException {
        String source = source();
        Set<String> sentences = BoundsTest.ask().answers().keySet();
        List<Breaks.Break> all = Breaks.all();
        List<String> faults = new ArrayList<>(all.parallelStream().map(b -> outcome(b, source, sentences)).filter(o -> !o.isEmpty())
            .collect(Collectors.toList()));
        Set<String> unbroken = new TreeSet<>(sentences);
        for (Breaks.Break b : all) unbroken.remove(sentenceOf(b, sentences));
        for (String sentence : unbroken) faults.add("\"" + sentence + "\": nothing breaks it");
        for (String fault : faults) System.out.println("BreaksTest: " + fault);
        System.out.println("BreaksTest: " + all.size() + " breaks of " + sentences.size() + " sentences, " + faults.size() + " faults");
        if (!faults.isEmpty()) System.exit(1);
    }
}
