import java.io.IOException;
import java.lang.reflect.Array;
import java.lang.reflect.Constructor;
import java.lang.reflect.Field;
import java.lang.reflect.Member;
import java.lang.reflect.Method;
import java.lang.reflect.Modifier;
import java.nio.file.Files;
import java.nio.file.Path;
import java.util.ArrayDeque;
import java.util.ArrayList;
import java.util.Deque;
import java.util.IdentityHashMap;
import java.util.List;
import java.util.Map;
import java.util.Set;
import java.util.TreeSet;
import java.util.regex.Matcher;
import java.util.regex.Pattern;

/** The public face, the rules of LANGUAGE.md that can be looked up in the text, and how much room an object takes. */
public final class FaceTest {
    private static final Path SOURCE = Path.of("src/main/java/FeastRules.java");
    private static final String[] FACE = {
        "int feed(int,int,int,int,int)", "boolean end(int)", "int book()", "int fault(int)", "int has(int)",
        "int letter(int,int)", "int rule(int,int)", "int day(int,int,int)", "int date(int,int)", "int on(int,int)",
        "int next(int,int)", "int ahead(int,int)", "int nth(int,int)", "int many(int,int,int)", "int gap(int,int)",
        "int free(int,int,int)", "int meet(int,int,int,int)", "int fares(int,int)", "int period(int,int,int)",
        "int sum(int)", "int see(int)", "int fits(int)", "int tells(int)", "boolean add(int,int)",
        "boolean leave(int,int)", "boolean every(int,int)", "boolean from(int,int)", "int chance(int)",
        "boolean undo()", "boolean seed(int)", "int status(int)"};

    public static void main(String[] args) throws Exception {
        document();
        face();
        names();
        String code = bare(Files.readString(SOURCE));
        words(code);
        methods(code);
        room();
        Check.close("FaceTest");
    }

    private static void told(String what, boolean right) {
        Check.due(what, right, true);
    }

    private static boolean hidden(Member m) {
        return Modifier.isPrivate(m.getModifiers()) || m.isSynthetic();
    }

    private static String signature(Method m) {
        StringBuilder s = new StringBuilder(m.getReturnType().getName() + " " + m.getName() + "(");
        for (Class<?> p : m.getParameterTypes()) {
            s.append(s.charAt(s.length() - 1) == '(' ? "" : ",").append(p.getName());
        }
        return s + ")";
    }

    /** The face, and the head of each promise, as the document has them: without the names of parameters. */
    private static void document() throws IOException {
        String text = Files.readString(Path.of("../shared/DOC.md"));
        told("the document's class", text.contains("public final class FeastRules {\n    public static final int NONE = -1;\n    public FeastRules();\n"));
        Set<String> face = new TreeSet<>();
        Matcher methods = Pattern.compile("(?m)^    public (\\w+ \\w+\\(.*\\));$").matcher(text);
        while (methods.find()) {
            face.add(methods.group(1).replaceAll("int \\w+(?=[,)])", "int").replace(", ", ","));
        }
        told("the document's face: " + face, face.equals(new TreeSet<>(List.of(FACE))));
        List<String> promised = new ArrayList<>();
        Matcher promises = Pattern.compile("(?m)^## Promise (\\d+): (\\w+)\n\n`(\\w+ (\\w+)\\(.*?\\))`:").matcher(text);
        while (promises.find()) {
            promised.add(promises.group(3).replaceAll("int \\w+(?=[,)])", "int").replace(", ", ","));
            Check.due("number of the promise of " + promises.group(2), Integer.parseInt(promises.group(1)), promised.size() + 1);
            told("its head: " + promises.group(2), promises.group(2).equals(promises.group(4)));
        }
        told("a promise for each: " + promised, promised.equals(List.of(FACE)));
    }

    private static void face() throws Exception {
        Class<?> c = FeastRules.class;
        told("the class is public and final", Modifier.isPublic(c.getModifiers()) && Modifier.isFinal(c.getModifiers()));
        Set<String> open = new TreeSet<>();
        for (Method m : c.getDeclaredMethods()) {
            if (!hidden(m)) {
                open.add(signature(m));
                told(m.getName() + " is public, not static", Modifier.isPublic(m.getModifiers()) && !Modifier.isStatic(m.getModifiers()));
            }
        }
        Check.due("methods that are not private are the face: " + open, open.equals(new TreeSet<>(List.of(FACE))), true);
        for (Constructor<?> k : c.getDeclaredConstructors()) {
            told("the constructor", Modifier.isPublic(k.getModifiers()) && k.getParameterCount() == 0);
        }
        for (Field f : c.getDeclaredFields()) {
            told("field " + f.getName(), hidden(f) || f.getName().equals("NONE"));
        }
        Check.due("NONE", FeastRules.NONE, -1);
        told("NONE is public, static, final", Modifier.toString(c.getField("NONE").getModifiers()).equals("public static final"));
    }

    private static void names() {
        Set<String> open = new TreeSet<>();
        for (String s : FACE) {
            open.add(s.replaceAll(".* |\\(.*", ""));
        }
        Class<?>[] inside = FeastRules.class.getDeclaredClasses();
        told("at most twelve classes", inside.length + 1 <= 12);
        for (Class<?> c : inside) {
            told(c.getName() + " is static, not public", Modifier.isStatic(c.getModifiers()) && !Modifier.isPublic(c.getModifiers()));
            for (Method m : c.getDeclaredMethods()) {
                told(c.getName() + "." + m.getName() + " bears no public name", !open.contains(m.getName()));
            }
            fields(c);
        }
        for (Method m : FeastRules.class.getDeclaredMethods()) {
            told(m.getName() + " bears no public name", !Modifier.isPrivate(m.getModifiers()) || !open.contains(m.getName()));
        }
        fields(FeastRules.class);
    }

    private static void fields(Class<?> c) {
        int fields = 0;
        for (Field f : c.getDeclaredFields()) {
            boolean fixed = Modifier.isStatic(f.getModifiers());
            fields += fixed ? 0 : 1;
            told(c.getName() + "." + f.getName() + " is final if static", !fixed || Modifier.isFinal(f.getModifiers()));
        }
        told(c.getName() + " has at most twenty fields", fields <= 20);
    }

    /** The text without comments, strings and characters. */
    private static String bare(String text) {
        return text.replaceAll("(?s)/\\*.*?\\*/", "").replaceAll("\"(\\\\.|[^\"\\\\])*\"", "\"\"")
            .replaceAll("'(\\\\.|[^'\\\\])'", "' '").replaceAll("//[^\n]*", "");
    }

    private static void words(String code) throws IOException {
        for (String word : List.of("throw", "throws", "try", "catch", "finally", "synchronized", "assert", "protected", "native",
            "volatile", "transient", "Object", "Exception", "Error", "Thread", "var", "yield", "package", "equals", "toString",
            "hashCode", "\\w+Exact")) {
            told("no " + word, !Pattern.compile("\\b" + word + "\\b").matcher(code).find());
        }
        told("no lambda", !code.contains("->"));
        told("no method reference", !code.contains("::"));
        told("no annotation", !code.contains("@"));
        told("no static block", !Pattern.compile("static\\s*\\{").matcher(code).find());
        told("no texts joined by +", !Pattern.compile("\"\"\\s*\\+|\\+\\s*\"\"").matcher(code).find());
        Matcher imports = Pattern.compile("import ([\\w.]+);").matcher(code);
        while (imports.find()) {
            told("import " + imports.group(1), imports.group(1).equals("java.util.Arrays"));
        }
        Matcher library = Pattern.compile("\\b(Arrays|System|Math|Long|Integer)\\.(\\w+)").matcher(code);
        Set<String> allowed = Set.of("Arrays.fill", "System.arraycopy", "Math.max", "Math.min", "Long.bitCount");
        while (library.find()) {
            told(library.group(), allowed.contains(library.group()));
        }
        told("signs 1 to 127 alone", Files.readString(SOURCE).chars().allMatch(c -> c > 0 && c < 128));
    }

    private static void methods(String code) {
        String[] lines = code.split("\n");
        Pattern head = Pattern.compile("^(    |        )(?!(?:.*\\bclass\\b))[^ ].*\\(.*\\) \\{$");
        for (int i = 0; i < lines.length; i++) {
            Matcher m = head.matcher(lines[i]);
            if (!m.matches()) {
                continue;
            }
            int end = i;
            while (end < lines.length && !lines[end].equals(m.group(1) + "}")) {
                end++;
            }
            told("short: " + lines[i].trim() + " has " + (end - i + 1) + " lines", end - i + 1 <= 60);
            told("at most seven parameters: " + lines[i].trim(), lines[i].split(",").length <= 7);
        }
    }

    /** Everything that an object holds, counted: objects and arrays, fields and elements. */
    private static long[] holds(Object root) throws IllegalAccessException {
        Map<Object, Boolean> met = new IdentityHashMap<>();
        Deque<Object> open = new ArrayDeque<>();
        open.push(root);
        met.put(root, true);
        long parts = 0;
        while (!open.isEmpty()) {
            Object o = open.pop();
            if (o.getClass().isArray()) {
                parts += Array.getLength(o);
                for (int i = 0; i < Array.getLength(o) && !o.getClass().getComponentType().isPrimitive(); i++) {
                    Object next = Array.get(o, i);
                    if (next != null && met.put(next, true) == null) {
                        open.push(next);
                    }
                }
                continue;
            }
            for (Field f : o.getClass().getDeclaredFields()) {
                if (Modifier.isStatic(f.getModifiers())) {
                    continue;
                }
                parts++;
                f.setAccessible(true);
                Object next = f.getType().isPrimitive() ? null : f.get(o);
                if (next != null && met.put(next, true) == null) {
                    open.push(next);
                }
            }
        }
        return new long[] {met.size(), parts};
    }

    /** All rows are made in the constructor: an object holds after many calls what it held at first. */
    private static void room() throws IllegalAccessException {
        FeastRules x = new FeastRules();
        long[] first = holds(x);
        System.out.println("an object holds " + first[0] + " objects and arrays, " + first[1] + " fields and elements");
        told("at most 14000 fields and elements", first[1] <= 14000);
        Check.book(x, "rule a every 1 days from 2000-1-1;set s is a off a or day 2000-1-1 later 1;");
        x.chance(40);
        Check.see(x, 0, 5, 1);
        x.tells(0);
        x.undo();
        Check.book(x, "rule b every 1 years from 2000-1-1 in 2 on 3;set s is b;");
        x.sum(6);
        long[] last = holds(x);
        told("no more objects than at first", last[0] <= first[0]);
        told("no more fields than at first", last[1] <= first[1]);
    }
}
