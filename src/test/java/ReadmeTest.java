import java.io.ByteArrayOutputStream;
import java.io.IOException;
import java.io.PrintStream;
import java.lang.reflect.Method;
import java.lang.reflect.Modifier;
import java.net.URI;
import java.net.URL;
import java.net.URLClassLoader;
import java.nio.charset.StandardCharsets;
import java.nio.file.Files;
import java.nio.file.Path;
import java.util.List;
import javax.tools.JavaCompiler;
import javax.tools.JavaFileObject;
import javax.tools.SimpleJavaFileObject;
import javax.tools.ToolProvider;

/** What README.md, the first argument, shows holds. The second one is a folder to compile its example in. */
public final class ReadmeTest {

    private ReadmeTest() {
    }

    public static void main(String[] args) throws IOException {
        String readme = Files.readString(Path.of(args[0]));
        Path folder = Files.createDirectories(Path.of(args[1]));
        boolean good = Due.test("README: the example prints what it is said to print", due -> {
            String[] got = printedBy(block(readme, "java"), folder).split("\n");
            String[] want = block(readme, "text").split("\n");
            due.is("lines", got.length, want.length);
            for (int i = 0; i < Math.min(got.length, want.length); i++) {
                due.holds("printed \"" + got[i] + "\", README has \"" + want[i] + "\"", got[i].equals(want[i]));
            }
        });
        good &= Due.test("README: each call is named", due -> {
            for (Method method : SeenFromBehind.class.getDeclaredMethods()) {
                boolean named = readme.contains("`" + method.getName() + "`");
                due.holds(method.getName() + " is not named", named || !Modifier.isPublic(method.getModifiers()));
            }
        });
        if (!good) {
            System.exit(1);
        }
    }

    private static String block(String readme, String kind) {
        String beginning = "```" + kind + "\n";
        int from = readme.indexOf(beginning) + beginning.length();
        return readme.substring(from, readme.indexOf("```", from));
    }

    private static String printedBy(String example, Path folder) {
        JavaFileObject file = new SimpleJavaFileObject(URI.create("string:///Example.java"), JavaFileObject.Kind.SOURCE) {
            @Override
            public CharSequence getCharContent(boolean ignoreEncodingErrors) {
                return example;
            }
        };
        JavaCompiler compiler = ToolProvider.getSystemJavaCompiler();
        List<String> options = List.of("-d", folder.toString(), "-cp", System.getProperty("java.class.path"));
        if (!compiler.getTask(null, null, null, options, null, List.of(file)).call()) {
            throw new IllegalStateException("the example does not compile");
        }
        PrintStream before = System.out;
        ByteArrayOutputStream printed = new ByteArrayOutputStream();
        try (URLClassLoader loader = new URLClassLoader(new URL[] {folder.toUri().toURL()}, ReadmeTest.class.getClassLoader())) {
            System.setOut(new PrintStream(printed, true, StandardCharsets.UTF_8));
            loader.loadClass("Example").getMethod("main", String[].class).invoke(null, (Object) new String[0]);
        } catch (IOException | ReflectiveOperationException e) {
            throw new IllegalStateException("the example can't be run", e);
        } finally {
            System.setOut(before);
        }
        return printed.toString(StandardCharsets.UTF_8).replace("\r\n", "\n");
    }
}
