import java.lang.reflect.Constructor;
import java.lang.reflect.Field;
import java.lang.reflect.Method;
import java.lang.reflect.Modifier;
import java.nio.file.Files;
import java.nio.file.Path;
import java.util.ArrayList;
import java.util.List;
import java.util.Map;
import java.util.Set;
import java.util.TreeMap;
import java.util.TreeSet;
import java.util.regex.Matcher;
import java.util.regex.Pattern;

/** The rules of LANGUAGE.md that can be seen in the source and in the class; its path is the one argument. */
public final class LanguageTest {
    private static int wrong = 0;

    private static final String[] FACE = {
        "int state(int)", "int person(int)", "boolean set(int,int,int)", "int feed(int,int,int,int,int)",
        "boolean end(int)", "int text()", "int fault(int)", "int speak(int,int)", "int hours(int)",
        "int of(int,int)", "int hears(int,int,int)", "int deaf(int,int)", "int book(int,int)", "int tune(int,int)",
        "int same(int,int)", "int pair(int,int)", "int turnOf(int)", "int tell(int)", "int fit(int,int)",
        "int fewest(int)", "int ruler(int,int)", "int alone(int,int,int,int,int)", "int safe(int)",
        "boolean undo()", "boolean image(boolean)", "int look(int)"};

    private static void need(boolean good, String what) {
        if (!good) {
            wrong++;
            System.out.println(what);
        }
    }

    public static void main(String[] args) throws Exception {
        String source = Files.readString(Path.of(args[0]));
        String code = source.replaceAll("(?s)/\\*.*?\\*/", "").replaceAll("//[^\n]*", "")
            .replaceAll("\"[^\"\n]*\"", "\"\"").replaceAll("'[^'\n]+'", "' '");
        words(code);
        methods(code);
        constructors(code);
        depth(code);
        face();
        System.out.println(wrong == 0 ? "the rules are kept" : wrong + " rules are not kept");
        if (wrong != 0) {
            System.exit(1);
        }
    }

    private static void none(String code, String pattern) {
        Matcher m = Pattern.compile(pattern).matcher(code);
        while (m.find()) {
            need(false, "not allowed: " + m.group());
        }
    }

    private static void words(String code) {
        none(code, "\\b(throw|throws|try|catch|finally|synchronized|assert|protected|package|volatile|native)\\b");
        none(code, "->|::|Exact\\(|hashCode|toString|\\.equals\\(|System\\.(?!arraycopy)|Thread|Random");
        none(code, "import (?!java\\.util\\.(Arrays|ArrayList|List|Iterator);)[^;]*;");
        none(code, "static (?!final )(?!boolean \\w+\\()(?!int \\w+\\()(?!String \\w+\\()[^;{]*");
        none(code, "\\b(for|while) \\((;;|true)");
        none(code, "\\bcatch\\b");
        int classes = code.split("\\bclass \\w+ \\{").length - 1;
        need(classes <= 12, "classes: " + classes);
    }

    private static void methods(String code) {
        Set<String> open = new TreeSet<>();
        Set<String> hidden = new TreeSet<>();
        String[] lines = code.split("\n");
        Pattern head = Pattern.compile("^( {4}| {8})(public|private) (static )?\\w+(\\[\\])? (\\w+)\\((.*)\\) \\{$");
        for (int i = 0; i < lines.length; i++) {
            Matcher m = head.matcher(lines[i]);
            if (!m.matches()) {
                continue;
            }
            (m.group(2).equals("public") ? open : hidden).add(m.group(5));
            need(m.group(6).split(",").length <= 7, "too many parameters: " + m.group(5));
            int end = i;
            while (!lines[end].equals(m.group(1) + "}")) {
                end++;
            }
            need(end - i <= 60, "too long: " + m.group(5));
        }
        need(open.size() == FACE.length, "public methods: " + open);
        hidden.retainAll(open);
        need(hidden.isEmpty(), "private ones with a public name: " + hidden);
    }

    /** Rule 12: a constructor hands out nothing of the object that it makes, neither itself nor a part. */
    private static void constructors(String code) {
        none(code, "[(,] *this *[,)]");
        Pattern head = Pattern.compile("^( {4}| {8})(public|private) (\\w+)\\((.*)\\) \\{$");
        String[] lines = code.split("\n");
        int seen = 0;
        for (int i = 0; i < lines.length; i++) {
            Matcher m = head.matcher(lines[i]);
            if (!m.matches()) {
                continue;
            }
            seen++;
            need(m.group(4).isEmpty(), "a constructor is handed something: " + lines[i].trim());
            for (i++; !lines[i].equals(m.group(1) + "}"); i++) {
                need(lines[i].matches(".*= new \\w+(\\(\\)|\\[[A-Z_ *+0-9]+\\]);")
                    || lines[i].matches(".*= (NONE|false|0);")
                    || lines[i].matches(" +Arrays\\.fill\\(\\w+, [A-Z_]+\\);"),
                    "a constructor does more than make its own: " + lines[i].trim());
            }
        }
        need(seen >= 2, "constructors seen: " + seen);
    }

    /** Rule 11: calls that are no recursion go at most eight deep; a method that calls itself counts once. */
    private static void depth(String code) {
        Map<String, String> bodies = new TreeMap<>();
        Pattern head = Pattern.compile("^( {4}| {8})(public|private) (static )?\\w+(\\[\\])? (\\w+)\\((.*)\\) \\{$");
        Pattern type = Pattern.compile("^ {4}private static final class (\\w+) \\{$");
        String[] lines = code.split("\n");
        String owner = "";
        for (int i = 0; i < lines.length; i++) {
            Matcher m = head.matcher(lines[i]);
            Matcher t = type.matcher(lines[i]);
            owner = t.matches() ? t.group(1) : owner;
            if (m.matches()) {
                StringBuilder body = new StringBuilder();
                for (i++; !lines[i].equals(m.group(1) + "}"); i++) {
                    body.append(lines[i]).append('\n');
                }
                bodies.put(owner + "." + m.group(5), body.toString());
            }
        }
        Map<String, Integer> deep = new TreeMap<>();
        int deepest = 0;
        for (String method : bodies.keySet()) {
            deepest = Math.max(deepest, deepOf(method, bodies, deep, 0));
        }
        need(deepest >= 4 && deepest <= 8, "calls go " + deepest + " deep: " + deep);
    }

    private static int deepOf(String method, Map<String, String> bodies, Map<String, Integer> deep, int open) {
        if (deep.containsKey(method) || open > 40) {
            need(open <= 40, "methods that call one another: " + method);
            return deep.getOrDefault(method, open);
        }
        int below = 0;
        String owner = method.substring(0, method.indexOf('.'));
        Matcher m = Pattern.compile("(\\.?)\\b(\\w+)\\(").matcher(bodies.get(method));
        while (m.find()) {
            for (String other : bodies.keySet()) {
                boolean named = other.endsWith("." + m.group(2)) && !other.equals(method);
                boolean own = other.startsWith(owner + ".");
                if (named && own == m.group(1).isEmpty()) {
                    below = Math.max(below, deepOf(other, bodies, deep, open + 1));
                }
            }
        }
        deep.put(method, below + 1);
        return below + 1;
    }

    private static void face() {
        List<String> seen = new ArrayList<>();
        for (Method m : HearDifference.class.getDeclaredMethods()) {
            if (Modifier.isPrivate(m.getModifiers())) {
                continue;
            }
            need(Modifier.isPublic(m.getModifiers()), "seen from the package: " + m);
            List<String> types = new ArrayList<>();
            for (Class<?> t : m.getParameterTypes()) {
                types.add(t.getName());
            }
            seen.add(m.getReturnType().getName() + " " + m.getName() + "(" + String.join(",", types) + ")");
        }
        need(seen.size() == FACE.length && seen.containsAll(List.of(FACE)), "the face: " + seen);
        for (Field f : HearDifference.class.getDeclaredFields()) {
            boolean constant = f.getName().equals("NONE") && Modifier.isPublic(f.getModifiers());
            need(constant || Modifier.isPrivate(f.getModifiers()), "a field that is seen: " + f);
        }
        for (Constructor<?> c : HearDifference.class.getDeclaredConstructors()) {
            need(Modifier.isPublic(c.getModifiers()) && c.getParameterCount() == 0, "a constructor: " + c);
        }
        need(Modifier.isFinal(HearDifference.class.getModifiers()), "the class is final");
        for (Class<?> c : HearDifference.class.getDeclaredClasses()) {
            need(Modifier.isStatic(c.getModifiers()), "an inner class that is not static: " + c);
            fields(c);
        }
        fields(HearDifference.class);
    }

    private static void fields(Class<?> c) {
        int own = 0;
        for (Field f : c.getDeclaredFields()) {
            own += Modifier.isStatic(f.getModifiers()) ? 0 : 1;
            need(!Modifier.isStatic(f.getModifiers()) || Modifier.isFinal(f.getModifiers()), "static, not final: " + f);
        }
        need(own <= 20, "too many fields: " + c + " " + own);
    }
}
