import java.io.IOException;
import java.lang.reflect.Field;
import java.lang.reflect.Method;
import java.lang.reflect.Modifier;
import java.nio.file.Files;
import java.nio.file.Path;
import java.util.Arrays;
import java.util.HashSet;
import java.util.List;
import java.util.Set;
import java.util.TreeSet;
import java.util.regex.Matcher;
import java.util.regex.Pattern;

/** What of ../shared/LANGUAGE.md can be seen by looking at the class and its text; run from the project's folder. */
public final class LanguageTest {
    private static final String SOURCE = "src/main/java/SpoutSpring.java";
    private static final List<String> FACE = Arrays.asList("feed", "end", "spring", "laws", "fault", "cold", "high",
        "room", "book", "plays", "play", "sight", "untell", "later", "span", "board", "log", "clear", "fits", "thread",
        "shook", "stolen", "years", "led", "ring", "parts", "gap", "about");

    private LanguageTest() {
    }

    public static void main(String[] args) throws IOException {
        face();
        inside();
        String text = plain(Files.readString(Path.of(SOURCE)));
        words(text);
        methods(text);
        Due.finish("LanguageTest");
    }

    private static void face() {
        Set<String> open = new TreeSet<>();
        for (Method method : SpoutSpring.class.getDeclaredMethods()) {
            if (!Modifier.isPrivate(method.getModifiers())) {
                open.add(method.getName());
                Due.yes(method + " is public", Modifier.isPublic(method.getModifiers()));
            } else {
                Due.no(method + " bears a public one's name", FACE.contains(method.getName()));
            }
        }
        Due.yes("the face is " + open, open.equals(new TreeSet<>(FACE)));
        Due.yes("the class is final", Modifier.isFinal(SpoutSpring.class.getModifiers()));
        for (Field field : SpoutSpring.class.getDeclaredFields()) {
            boolean open2 = !Modifier.isPrivate(field.getModifiers());
            Due.same(field + " is open", open2 ? 1 : 0, field.getName().equals("NONE") ? 1 : 0);
        }
    }

    private static void inside() {
        Set<Class<?>> all = new HashSet<>(Arrays.asList(SpoutSpring.class.getDeclaredClasses()));
        Due.yes("some twelve classes", all.size() <= 11);
        all.add(SpoutSpring.class);
        for (Class<?> one : all) {
            int own = 0;
            for (Field field : one.getDeclaredFields()) {
                boolean constant = Modifier.isStatic(field.getModifiers());
                Due.yes(field + ": static is final", !constant || Modifier.isFinal(field.getModifiers()));
                own += constant ? 0 : 1;
            }
            Due.yes(one + " has some twenty fields", own <= 20);
            Due.yes(one + " is static", one == SpoutSpring.class || Modifier.isStatic(one.getModifiers()));
            for (Method method : one.getDeclaredMethods()) {
                Due.yes(method + " takes at most seven", method.getParameterCount() <= 7);
                Due.no(method + " bears a public one's name", one != SpoutSpring.class && FACE.contains(method.getName()));
            }
        }
    }

    /** The source without its comments, and with nothing in its strings and signs. */
    private static String plain(String source) {
        return source.replaceAll("(?s)/\\*.*?\\*/", "").replaceAll("//[^\n]*", "")
            .replaceAll("'\\\\?.'", "0").replaceAll("\"[^\"\n]*\"", "\"\"");
    }

    private static void words(String text) {
        String[] none = {"throw", "throws", "try", "catch", "finally", "synchronized", "assert", "package", "instanceof",
            "Object", "Random", "System\\.(?!arraycopy)", "Exception", "Error", "->", "::", "@", "addExact", "hashCode",
            "toString", "equals", "float", "double", "volatile", "transient", "native"};
        for (String word : none) {
            Matcher found = Pattern.compile(word.matches("\\w+") ? "\\b" + word + "\\b" : word).matcher(text);
            Due.no(word + " stands in the source", found.find());
        }
        Matcher imports = Pattern.compile("import ([^;]+);").matcher(text);
        while (imports.find()) {
            Due.yes("import " + imports.group(1), imports.group(1).equals("java.util.Arrays"));
        }
        Due.no("texts are joined by +", Pattern.compile("\"\" *\\+|\\+ *\"\"").matcher(text).find());
        for (int i = 0; i < text.length(); i++) {
            if (text.charAt(i) > 126) {
                Due.same("a sign beyond 126", text.charAt(i), 0);
            }
        }
    }

    private static void methods(String text) {
        String[] lines = text.split("\n");
        for (int i = 0; i < lines.length; i++) {
            Matcher head = Pattern.compile("^( +)(?!.*\\bclass\\b)[^=;]*\\) \\{$").matcher(lines[i]);
            if (!head.matches() || lines[i].trim().matches("(if|for|while|switch|\\}|else|do)\\b.*|\\}.*")) {
                continue;
            }
            int end = i;
            while (end < lines.length && !lines[end].equals(head.group(1) + "}")) {
                end++;
            }
            Due.yes(lines[i].trim() + " is short", end - i <= 60);
        }
    }
}
