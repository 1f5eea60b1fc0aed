import java.net.URI;
import java.net.URL;
import java.net.URLClassLoader;
import java.nio.file.Files;
import java.nio.file.Path;
import java.util.List;
import javax.tools.JavaCompiler;
import javax.tools.JavaFileObject;
import javax.tools.SimpleJavaFileObject;
import javax.tools.ToolProvider;

/** Runs what README.md shows: a call with a number behind it must answer that; every call must stand on the page. */
public final class ReadmeTest extends YardTest {
    public static void main(String[] args) throws Exception {
        List<String> page = Files.readAllLines(Path.of(args[0]));
        promise(0);
        shownCallsAnswer(page);
        shownTextsCanBe(String.join("\n", page));
        everyCallIsTold(String.join("\n", page));
        report("ReadmeTest");
    }

    /** Called by the class that is made of the page's lines. */
    public static void due(String call, long got, long want) {
        is("README's " + call, got, want);
    }

    private static void shownCallsAnswer(List<String> page) throws Exception {
        StringBuilder code = new StringBuilder("public final class Shown { public static void run() {\n");
        boolean isCode = false;
        int shown = 0;
        for (String line : page) {
            if (line.startsWith("```")) {
                isCode = line.equals("```java");
            } else if (isCode) {
                int end = line.indexOf(';');
                String answer = line.replaceFirst(".*// *(-?[0-9]+)?.*", "$1");
                if (!line.contains("//")) {
                    code.append(line).append('\n');
                } else {
                    String call = line.substring(0, end);
                    code.append("ReadmeTest.due(\"" + call + "\", " + call + ", " + answer + "L);\n");
                    shown++;
                }
            }
        }
        is("calls that are shown with an answer", shown > 15 ? 1 : 0, 1);
        runShown(code.append("} }\n").toString());
    }

    private static void runShown(String code) throws Exception {
        JavaCompiler compiler = ToolProvider.getSystemJavaCompiler();
        Path out = Files.createTempDirectory("readme");
        JavaFileObject file = new SimpleJavaFileObject(URI.create("string:///Shown.java"), JavaFileObject.Kind.SOURCE) {
            @Override
            public CharSequence getCharContent(boolean ignore) {
                return code;
            }
        };
        List<String> options = List.of("-d", out.toString(), "-cp", System.getProperty("java.class.path"));
        is("README's code compiles", compiler.getTask(null, null, null, options, null, List.of(file)).call() ? 1 : 0, 1);
        try (URLClassLoader loader = new URLClassLoader(new URL[] {out.toUri().toURL()})) {
            loader.loadClass("Shown").getMethod("run").invoke(null);
        }
        Files.delete(out.resolve("Shown.class"));
        Files.delete(out);
    }

    private static void shownTextsCanBe(String page) {
        int shown = 0;
        String[] spans = page.replace('\n', ' ').split("`");
        for (int i = 1; i < spans.length; i += 2) {
            YardYear y = new YardYear();
            if (spans[i].startsWith("moves ")) {
                is("README's law <" + spans[i] + ">", law(y, spans[i]), 0);
                shown++;
            } else if (spans[i].startsWith("bury ")) {
                lay(y, 12);
                y.put(8, 0, 1);
                is("README's orders <" + spans[i] + ">", orders(y, spans[i]), 7);
                shown++;
            }
        }
        is("texts that are shown", shown, 2);
    }

    private static void everyCallIsTold(String page) {
        for (java.lang.reflect.Method m : YardYear.class.getDeclaredMethods()) {
            if (java.lang.reflect.Modifier.isPublic(m.getModifiers())) {
                is("README tells of " + m.getName(), page.contains("`" + m.getName() + "`") ? 1 : 0, 1);
            }
        }
    }
}
