import java.io.IOException;
import java.nio.charset.StandardCharsets;
import java.nio.file.Files;
import java.nio.file.Path;
import java.util.ArrayList;
import java.util.HashMap;
import java.util.HashSet;
import java.util.List;
import java.util.Map;
import java.util.Set;
import java.util.TreeMap;
import java.util.regex.Matcher;
import java.util.regex.Pattern;

/**
 * What of ../shared/LANGUAGE.md can be seen in the text of the program. It is stricter than the page:
 * the program has no need of the library's lists and texts, so none of them may come in unnoticed.
 */
final class SourceRulesTest {
    private static final Path SOURCE = Path.of("src/main/java/PrizePurses.java");
    private static final Pattern METHOD = Pattern.compile(
            "(?m)^ +(?:(public|private) )?(?:static )?(?:int|boolean|void|char|Stall|Fair) (\\w+)\\(([^)]*)\\)"
            + "[^;{]*\\{");
    private static final String[] FORBIDDEN = {
        "\\b(?:import|package|try|catch|finally|synchronized|assert|instanceof|native|volatile|transient)\\b",
        "\\b(?:float|double|long|short|byte|Object|Integer|Long|String|StringBuilder|List|ArrayList)\\b",
        "->|::|@", "\\bMath\\.(?!min\\(|max\\()", "\\bSystem\\.(?!arraycopy\\()", "Exact\\b",
        "\\bthrow (?!new (?:IndexOutOfBounds|IllegalArgument|IllegalState)Exception\\(\"\"\\);)",
        "\\bstatic (?!final |int |boolean )", "\\b(?:equals|hashCode|toString|getClass|clone)\\b",
    };

    private static final Due DUE = new Due();

    public static void main(String[] args) throws IOException {
        String raw = Files.readString(SOURCE, StandardCharsets.ISO_8859_1);
        DUE.is("signs beyond 127", raw.chars().filter(sign -> sign > 127).count(), 0);
        String code = withoutCommentsAndTexts(raw);
        for (String forbidden : FORBIDDEN) {
            Matcher matcher = Pattern.compile(forbidden).matcher(code);
            while (matcher.find()) {
                DUE.is("line " + lineOf(code, matcher.start()) + ": " + matcher.group(), 1, 0);
            }
        }
        Map<String, List<String>> bodies = new TreeMap<>();
        lookAtMethods(code, bodies);
        depths(bodies);
        DUE.end();
    }

    /** Comments, and what stands in texts and signs, become blanks; lines stay lines. */
    private static String withoutCommentsAndTexts(String raw) {
        StringBuilder code = new StringBuilder();
        Matcher matcher = Pattern.compile("/\\*.*?\\*/|//[^\n]*|\"[^\"\n]*\"|'.'", Pattern.DOTALL).matcher(raw);
        int end = 0;
        while (matcher.find()) {
            code.append(raw, end, matcher.start());
            String found = matcher.group();
            code.append(found.startsWith("/") ? found.replaceAll("[^\n]", "") : found.startsWith("\"") ? "\"\"" : "' '");
            end = matcher.end();
        }
        return code.append(raw.substring(end)).toString();
    }

    private static int lineOf(String code, int index) {
        return (int) code.substring(0, index).chars().filter(sign -> sign == '\n').count() + 1;
    }

    private static void lookAtMethods(String code, Map<String, List<String>> bodies) {
        Set<String> face = new HashSet<>();
        Set<String> others = new HashSet<>();
        Matcher matcher = METHOD.matcher(code);
        int found = 0;
        while (matcher.find()) {
            found++;
            String name = matcher.group(2);
            ("public".equals(matcher.group(1)) ? face : others).add(name);
            String body = bodyFrom(code, matcher.end());
            DUE.is(name + ": lines over 60", Math.max(60, lineOf(body, body.length())), 60);
            DUE.is(name + ": arguments over 7", Math.max(7, matcher.group(3).split(",").length), 7);
            bodies.computeIfAbsent(name, key -> new ArrayList<>()).add(body);
        }
        DUE.is("methods are found", found > 120, true);
        DUE.is("public methods", face.size(), 58);
        others.retainAll(face);
        DUE.is("names of public methods that others bear", others.toString(), "[]");
    }

    private static String bodyFrom(String code, int start) {
        int open = 1;
        int at = start;
        while (open > 0) {
            char sign = code.charAt(at);
            open += sign == '{' ? 1 : sign == '}' ? -1 : 0;
            at++;
        }
        return code.substring(start, at);
    }

    /** The deepest chain of calls by names; copyFrom calls the copyFrom of the parts, no recursion. */
    private static void depths(Map<String, List<String>> bodies) {
        Map<String, Integer> known = new HashMap<>();
        int deepest = 0;
        for (String name : bodies.keySet()) {
            deepest = Math.max(deepest, depthOf(name, bodies, known, 0));
        }
        DUE.is("calls deeper than 8", Math.max(8, deepest), 8);
    }

    private static int depthOf(String name, Map<String, List<String>> bodies, Map<String, Integer> known, int above) {
        if (known.containsKey(name)) {
            return known.get(name);
        }
        DUE.is(name + " is part of a recursion", above > 60, false);
        int below = 0;
        for (String body : bodies.get(name)) {
            Matcher matcher = Pattern.compile("(\\w+)\\(").matcher(body);
            while (matcher.find() && above <= 60) {
                String called = matcher.group(1);
                if (bodies.containsKey(called) && !called.equals(name)) {
                    below = Math.max(below, depthOf(called, bodies, known, above + 1));
                } else if (called.equals("min") || called.equals("max") || called.equals("arraycopy")
                        || called.equals("copyFrom")) {
                    below = Math.max(below, 1);
                }
            }
        }
        known.put(name, below + 1);
        return below + 1;
    }
}
