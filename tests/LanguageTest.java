import java.io.IOException;
import java.lang.reflect.Field;
import java.lang.reflect.Modifier;
import java.nio.file.Files;
import java.nio.file.Path;
import java.util.ArrayList;
import java.util.List;
import java.util.Map;
import java.util.TreeMap;
import java.util.TreeSet;
import java.util.regex.Matcher;
import java.util.regex.Pattern;

/** The rules of LANGUAGE.md that can be seen in the text of the source. It is run from the project's folder. */
public final class LanguageTest {
    private static final String[] FORBIDDEN = {"->", "::", "\\btry\\b", "\\bcatch\\b", "\\bfinally\\b",
        "\\bsynchronized\\b", "\\bassert\\b", "\\binstanceof\\b", "\\bimport\\b", "\\bpackage\\b", "\\bDouble\\b",
        "\\bFloat\\b", "\\bSystem\\.(?!arraycopy)", "\\bMath\\.(?!max|min|abs|floorDiv|floorMod)", "Exact\\b",
        "\\bObject\\b", "hashCode", "toString", "\\bequals\\b", "getMessage", "\\bRandom\\b", "\\bThread\\b",
        "\\bstatic\\s*\\{", "\\bprotected\\b", "\"\\s*\\+", "\\+\\s*\""};
    private static final String[] FACE = {"paper", "topics", "meet", "set", "bring", "week", "take", "write", "drop",
        "discuss", "rebut", "decide", "append", "clearBuffer", "firstError", "run", "keep", "goBack", "undo",
        "personOf", "paperOf", "score", "count", "setting", "whyNot", "bestReviewer", "most", "needed",
        "roundsToAgree", "meanScore", "spentShare", "digest"};

    /** They make a state only where none was kept so far. */
    private static final List<String> MAKERS = List.of("keep", "save");

    private static int wrong = 0;

    public static void main(String[] args) throws IOException {
        String source = Files.readString(Path.of("src/main/java/TokenReviews.java"));
        String code = source.replaceAll("(?s)/\\*.*?\\*/", "").replaceAll("//[^\n]*", "");
        for (char c : source.toCharArray()) {
            if (c > 126) {
                fail("a sign that is not ASCII: " + (int) c);
            }
        }
        for (String pattern : FORBIDDEN) {
            Matcher found = Pattern.compile(pattern).matcher(code.replaceAll("\"[^\"]*\"", "\"\""));
            if (found.find()) {
                fail("forbidden: " + found.group());
            }
        }
        methods(code);
        classes();
        System.out.println("LanguageTest: " + wrong + " rules broken");
        if (wrong != 0) {
            System.exit(1);
        }
    }

    private static void fail(String text) {
        wrong++;
        System.out.println("LanguageTest: " + text);
    }

    /** A method's head stands in one line or two; its end is the brace as deep in as its head. */
    private static void methods(String code) {
        Pattern head = Pattern.compile("\n( +)((?:public |private |static |final )*)"
                + "(?:int|long|float|double|boolean|void|State) (\\w+)\\(([^)]*)\\)[^;{]*\\{");
        Matcher found = head.matcher(code);
        List<String> publics = new ArrayList<>();
        TreeSet<String> others = new TreeSet<>();
        Map<String, String> bodies = new TreeMap<>();
        while (found.find()) {
            boolean isPublic = found.group(2).contains("public");
            if (isPublic) {
                publics.add(found.group(3));
            } else {
                others.add(found.group(3));
            }
            if (!isPublic && found.group(1).length() == 4 && !found.group(2).contains("private")) {
                fail("package-visible: " + found.group(3));
            }
            if (found.group(4).split(",").length > 7) {
                fail("more than seven parameters: " + found.group(3));
            }
            int end = code.indexOf("\n" + found.group(1) + "}", found.end());
            String body = code.substring(found.end(), end);
            if (body.split("\n").length > 60) {
                fail("longer than sixty lines: " + found.group(3));
            }
            if (body.replace("throw new ", "").contains("new ") && !MAKERS.contains(found.group(3))) {
                fail("makes an object: " + found.group(3));
            }
            bodies.put(found.group(3), bodies.getOrDefault(found.group(3), "") + body);
        }
        for (String name : FACE) {
            int deep = depth(name, bodies, 1);
            if (deep > 8) {
                fail(name + " calls " + deep + " deep");
            }
        }
        if (!publics.equals(List.of(FACE))) {
            fail("the public methods are " + publics);
        }
        for (String name : FACE) {
            if (others.contains(name)) {
                fail("a method of one's own bears a public name: " + name);
            }
        }
    }

    /** Methods that bear one name count as one. A method that comes to itself again goes deeper than is allowed. */
    private static int depth(String name, Map<String, String> bodies, int level) {
        int most = level;
        Matcher called = Pattern.compile("\\b(\\w+)\\(").matcher(bodies.get(name));
        while (level <= 8 && called.find()) {
            if (bodies.containsKey(called.group(1))) {
                most = Math.max(most, depth(called.group(1), bodies, level + 1));
            }
        }
        return most;
    }

    private static void classes() {
        List<Class<?>> all = new ArrayList<>(List.of(TokenReviews.class.getDeclaredClasses()));
        all.add(TokenReviews.class);
        if (all.size() > 12) {
            fail("more than twelve classes: " + all.size());
        }
        for (Class<?> type : all) {
            int fields = 0;
            for (Field field : type.getDeclaredFields()) {
                fields += Modifier.isStatic(field.getModifiers()) ? 0 : 1;
                if (Modifier.isStatic(field.getModifiers()) && !Modifier.isFinal(field.getModifiers())) {
                    fail("static, but not final: " + field);
                }
            }
            if (fields > 20) {
                fail("more than twenty fields: " + type.getName());
            }
        }
    }
}
