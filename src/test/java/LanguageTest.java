import java.nio.file.Files;
import java.nio.file.Path;
import java.util.List;
import java.util.regex.Matcher;
import java.util.regex.Pattern;

/** What of LANGUAGE.md a look at the source's words can tell. */
public final class LanguageTest {
    private static final Check CHECK = new Check();
    private static final List<String> FORBIDDEN = List.of(
            "\\bthrow\\b", "\\bthrows\\b", "\\btry\\b", "\\bcatch\\b", "\\bsynchronized\\b", "\\bassert\\b", "->", "::",
            "Exact\\b", "\\bprotected\\b", "\\bpackage\\b", "\\bequals\\b", "\\bhashCode\\b", "\\btoString\\b",
            "\\bSystem\\b(?!\\.arraycopy)", "\\bThread\\b", "\\bstatic\\s*\\{", "\\bdouble\\b", "\\bfloat\\b", "\\bvar\\b",
            "\\bnull\\b", "\\bObject\\b", "\\bwhile \\(true\\)", "for \\(;;\\)");

    public static void main(String[] args) throws Exception {
        String source = Files.readString(Path.of(args.length > 0 ? args[0] : "src/main/java/PlaneWholes.java"));
        String code = source.replaceAll("(?s)/\\*.*?\\*/", "").replaceAll("//[^\n]*", "");
        for (String forbidden : FORBIDDEN) {
            Matcher found = Pattern.compile(forbidden).matcher(code);
            CHECK.due("the word " + forbidden, found.find() ? 1 : 0, 0);
        }
        CHECK.due("sign beyond 127", source.chars().filter(c -> c > 126).count(), 0);
        Matcher imports = Pattern.compile("\\bimport ([^;]*);").matcher(code);
        while (imports.find()) {
            CHECK.due("import " + imports.group(1), imports.group(1).equals("java.util.Arrays") ? 1 : 0, 1);
        }
        Matcher nested = Pattern.compile("(\\w+ \\w+ \\w+) class \\w+ \\{").matcher(code);
        while (nested.find()) {
            CHECK.due("class told as " + nested.group(1), nested.group(1).equals("private static final") ? 1 : 0, 1);
        }
        face();
        ownNames();
        CHECK.end();
    }

    private static final List<String> FACE = List.of("kind", "set", "get", "size", "reckon", "turn", "makes", "like",
            "parts", "part", "ofSize", "within", "power", "order", "inverse", "single", "roots", "root", "digit", "digits",
            "rounds", "flocks", "flock", "has", "joined", "turned", "where", "leaps");

    private static void face() {
        int open = 0;
        for (var method : PlaneWholes.class.getDeclaredMethods()) {
            if (!java.lang.reflect.Modifier.isPrivate(method.getModifiers())) {
                open++;
                CHECK.due(method.getName(), FACE.contains(method.getName()) ? 1 : 0, 1);
            }
            CHECK.due(method.getName() + " takes", method.getParameterCount() <= 8 ? 1 : 0, 1);
        }
        CHECK.due("methods of the face", open, FACE.size());
        CHECK.due("fields of the face", PlaneWholes.class.getFields().length, 4);
        for (var field : PlaneWholes.class.getDeclaredFields()) {
            boolean told = List.of("BAD", "NO", "FULL", "NONE").contains(field.getName());
            CHECK.due(field.getName(), java.lang.reflect.Modifier.isPrivate(field.getModifiers()) ? 0 : 1, told ? 1 : 0);
        }
    }

    /** No own method, of whatever class, bears a name of the face. */
    private static void ownNames() {
        for (Class<?> nested : PlaneWholes.class.getDeclaredClasses()) {
            for (var method : nested.getDeclaredMethods()) {
                CHECK.due(nested.getSimpleName() + "." + method.getName(), FACE.contains(method.getName()) ? 1 : 0, 0);
                CHECK.due(method.getName() + " takes", method.getParameterCount() <= 7 ? 1 : 0, 1);
            }
        }
        CHECK.due("classes", PlaneWholes.class.getDeclaredClasses().length <= 11 ? 1 : 0, 1);
    }
}
