import java.io.ByteArrayOutputStream;
import java.io.File;
import java.io.IOException;
import java.io.PrintStream;
import java.net.URL;
import java.net.URLClassLoader;
import java.nio.file.Files;
import java.nio.file.Path;
import java.util.ArrayList;
import java.util.List;
import java.util.regex.Matcher;
import java.util.regex.Pattern;
import javax.tools.JavaCompiler;
import javax.tools.ToolProvider;

/** What README.md says is so: its program prints what stands below it; run from the project's folder. */
public final class ReadmeTest {
    private ReadmeTest() {
    }

    public static void main(String[] args) throws Exception {
        String page = Files.readString(Path.of("README.md"));
        program(page);
        calls(page);
        files(page);
        Due.finish("ReadmeTest");
    }

    private static void program(String page) throws Exception {
        JavaCompiler compiler = ToolProvider.getSystemJavaCompiler();
        if (compiler == null) {
            System.out.println("ReadmeTest: no compiler here, the program was not run");
            return;
        }
        Path folder = Files.createTempDirectory("readme");
        try {
            Path file = folder.resolve("Example.java");
            Files.writeString(file, block(page, "java"));
            String path = folder + File.pathSeparator + own();
            int answer = compiler.run(null, null, null, "-cp", path, "-d", folder.toString(), file.toString());
            Due.same("compile the program of README.md", answer, 0);
            String[] got = answer == 0 ? run(folder).split("\n") : new String[0];
            String[] want = block(page, "text").split("\n");
            Due.same("lines that the program prints", got.length, want.length);
            for (int i = 0; i < Math.min(got.length, want.length); i++) {
                Due.yes("the program prints \"" + got[i].trim() + "\", so", got[i].trim().equals(want[i]));
            }
        } finally {
            for (File file : folder.toFile().listFiles()) {
                Files.delete(file.toPath());
            }
            Files.delete(folder);
        }
    }

    private static String own() throws Exception {
        return new File(SpoutSpring.class.getProtectionDomain().getCodeSource().getLocation().toURI()).getPath();
    }

    private static String run(Path folder) throws Exception {
        PrintStream out = System.out;
        ByteArrayOutputStream printed = new ByteArrayOutputStream();
        try (URLClassLoader loader = new URLClassLoader(new URL[] {folder.toUri().toURL()})) {
            System.setOut(new PrintStream(printed, true));
            loader.loadClass("Example").getMethod("main", String[].class).invoke(null, (Object) new String[0]);
        } finally {
            System.setOut(out);
        }
        return printed.toString();
    }

    private static String block(String page, String kind) {
        Matcher found = Pattern.compile("(?s)```" + kind + "\n(.*?)```").matcher(page);
        return found.find() ? found.group(1) : "";
    }

    /** Every call of the face stands behind "The calls", each once, and no other. */
    private static void calls(String page) throws IOException {
        String list = page.replaceAll("(?s).*\nThe calls,(.*?)\nNo call throws.*", "$1");
        List<String> named = words(list, "`([a-z]+)`");
        List<String> face = words(Files.readString(Path.of("../shared/DOC.md")), "public (?:int|boolean) (\\w+)\\(");
        Due.same("calls of the face", face.size(), 28);
        for (String call : face) {
            Due.yes("README.md names " + call, named.remove(call));
        }
        Due.yes("README.md names besides " + named, named.isEmpty());
    }

    /** Every test is named, and every file that is named is there. */
    private static void files(String page) {
        String[] there = new File("src/test/java").list();
        Due.yes("tests are there", there != null && there.length > 0);
        for (String file : there) {
            Due.yes("README.md names " + file, page.contains("`" + file.replace(".java", "") + "`"));
        }
        for (String test : words(page, "`([A-Z][A-Za-z]+Test)`")) {
            Due.yes("there is a " + test, new File("src/test/java", test + ".java").exists());
        }
        for (String file : words(page, "`([\\w./]+\\.(?:java|md))`")) {
            boolean own = file.equals("Example.java") || new File(file).exists() || new File("../shared", file).exists();
            Due.yes("there is a " + file, own);
        }
    }

    private static List<String> words(String text, String pattern) {
        List<String> all = new ArrayList<>();
        Matcher found = Pattern.compile(pattern).matcher(text);
        while (found.find()) {
            all.add(found.group(1));
        }
        return all;
    }
}
