import java.io.IOException;
import java.lang.reflect.Method;
import java.lang.reflect.Modifier;
import java.net.URL;
import java.net.URLClassLoader;
import java.nio.file.Files;
import java.nio.file.Path;
import java.util.ArrayList;
import java.util.List;
import java.util.regex.Matcher;
import java.util.regex.Pattern;
import javax.tools.ToolProvider;

/** README.md says how to use the class: its code compiles, each answer told there is the one given, each call is shown. */
public final class ReadmeTest {
    private static final Pattern BLOCK = Pattern.compile("```java\n(.*?)```", Pattern.DOTALL);
    private static final Pattern ANSWERED = Pattern.compile("(?m)^(x\\.\\w+\\(.*?\\)); +// (\\S+):");

    private ReadmeTest() {
    }

    public static void main(String[] args) throws IOException, ReflectiveOperationException {
        List<String> blocks = new ArrayList<>();
        Matcher matcher = BLOCK.matcher(Files.readString(Path.of("README.md")));
        while (matcher.find()) {
            blocks.add(matcher.group(1));
        }
        Check.due("blocks of code: how to tell a text, how to use the class", blocks.size(), 2);
        showsEachCall(String.join("", blocks));
        answersAsTold(blocks);
        Check.close();
    }

    private static void showsEachCall(String code) {
        for (Method method : MovedLines.class.getDeclaredMethods()) {
            if (Modifier.isPublic(method.getModifiers())) {
                Check.due("README.md shows " + method.getName(), code.contains("x." + method.getName() + "("), true);
            }
        }
    }

    private static void answersAsTold(List<String> blocks) throws IOException, ReflectiveOperationException {
        Matcher answered = ANSWERED.matcher(blocks.get(1));
        List<String> due = new ArrayList<>();
        StringBuilder code = new StringBuilder();
        while (answered.find()) {
            due.add(answered.group(1) + " answers " + answered.group(2));
            answered.appendReplacement(code, Matcher.quoteReplacement(noted(answered.group(1))));
        }
        answered.appendTail(code);
        List<?> got = run(blocks.get(0), code.toString());
        Check.due("answers told", due.size() >= 20, true);
        Check.due("answers given", got.size(), due.size());
        for (int k = 0; k < Math.min(due.size(), got.size()); k++) {
            Check.due(due.get(k) + " by README.md, and is " + got.get(k), due.get(k).equals(got.get(k)), true);
        }
    }

    /** The call with its answer, or the name of what it throws, put into a list. */
    private static String noted(String call) {
        String told = "got.add(\"" + call + " answers \" + ";
        return "try { " + told + call + "); } catch (RuntimeException e) { " + told + "e.getClass().getSimpleName()); } //";
    }

    private static List<?> run(String helper, String body) throws IOException, ReflectiveOperationException {
        Path folder = Files.createTempDirectory("readme");
        Path source = folder.resolve("ReadmeCode.java");
        Files.writeString(source, "public class ReadmeCode {\n" + helper
            + "public static java.util.List<String> run() {\njava.util.List<String> got = new java.util.ArrayList<>();\n"
            + body + "return got;\n}\n}\n");
        int code = ToolProvider.getSystemJavaCompiler().run(null, null, null,
            "-cp", System.getProperty("java.class.path"), "-d", folder.toString(), source.toString());
        Check.due("README.md compiles", code, 0);
        List<?> got = List.of();
        if (code == 0) {
            try (URLClassLoader loader = new URLClassLoader(new URL[] {folder.toUri().toURL()})) {
                got = (List<?>) loader.loadClass("ReadmeCode").getMethod("run").invoke(null);
            }
        }
        Files.deleteIfExists(source);
        Files.deleteIfExists(folder.resolve("ReadmeCode.class"));
        Files.delete(folder);
        return got;
    }
}
