import java.nio.file.Files;
import java.nio.file.Path;
import java.util.regex.Matcher;
import java.util.regex.Pattern;
import javax.tools.ToolProvider;

/** README.md's example: it is compiled as it stands, and each call answers what stands behind it. */
public final class ReadmeTest {
    private static final Pattern EXAMPLE = Pattern.compile("(?s)```java\n(.*?)```");
    private static final Pattern ANSWERED = Pattern.compile("(?m)^(x\\.\\w+\\(.*?\\)); +// (-?\\d+|[A-Z]+)\\b.*$");
    private static final String[] SAID = {"new KeyStreets()", "letter(code)", "`city()`", "`tune(0)`", "`UNKNOWN`",
        "`OUTSIDE`", "`STATE`", "`FULL`", "`NONE`", ".ci/run", "../shared/tests"};

    private static final Checks C = new Checks();

    public static void main(String[] args) throws Exception {
        String readme = Files.readString(Path.of(System.getProperty("project.root", "."), "README.md"));
        for (String said : SAID) C.due("README.md says " + said, readme.contains(said) ? 1 : 0, 1);
        Matcher example = EXAMPLE.matcher(readme);
        C.due("README.md has an example", example.find() ? 1 : 0, 1);
        if (!C.anyWrong()) run(example.group(1));
        C.end("ReadmeTest");
    }

    /** Called by the example: names stand for the class's constants. */
    public static void due(String call, long got, String want) throws ReflectiveOperationException {
        boolean named = Character.isUpperCase(want.charAt(0));
        C.due(call, got, named ? KeyStreets.class.getField(want).getInt(null) : Long.parseLong(want));
    }

    private static void run(String example) throws Exception {
        Matcher calls = ANSWERED.matcher(example);
        int answered = (int) calls.results().count();
        long commented = example.lines().filter(line -> line.contains("//")).count();
        C.due("each call with a comment has an answer", answered, commented);
        C.due("the example has answers", answered > 0 ? 1 : 0, 1);
        StringBuilder body = new StringBuilder();
        calls.reset();
        while (calls.find()) {
            String call = calls.group(1);
            String text = call.replace("\\", "\\\\").replace("\"", "\\\"");
            String asked = "ReadmeTest.due(\"" + text + "\", " + call + ", \"" + calls.group(2) + "\");";
            calls.appendReplacement(body, Matcher.quoteReplacement(asked));
        }
        calls.appendTail(body);
        runBody(body.toString());
    }

    private static void runBody(String body) throws Exception {
        Path classes = Path.of(ReadmeTest.class.getProtectionDomain().getCodeSource().getLocation().toURI());
        Path source = classes.resolve("ReadmeExample.java");
        Files.writeString(source, "public final class ReadmeExample {\n"
            + "public static void run() throws Exception {\n" + body + "}\n}\n");
        int ended = ToolProvider.getSystemJavaCompiler().run(null, null, null, "-cp", classes.toString(), "-d",
            classes.toString(), source.toString());
        C.due("the example compiles", ended, 0);
        if (ended == 0) Class.forName("ReadmeExample").getMethod("run").invoke(null);
    }
}
