import java.io.IOException;
import java.lang.reflect.Array;
import java.lang.reflect.Field;
import java.lang.reflect.Method;
import java.lang.reflect.Modifier;
import java.nio.file.Files;
import java.nio.file.Path;
import java.util.ArrayList;
import java.util.Collections;
import java.util.HashSet;
import java.util.IdentityHashMap;
import java.util.List;
import java.util.Set;
import java.util.TreeSet;
import java.util.regex.Matcher;
import java.util.regex.Pattern;

/** The public face, the rules of LANGUAGE.md that a look at the file can show, and how much an object holds. */
public final class LanguageTest {
    private static final Checks CHECKS = new Checks("LanguageTest");
    private static final String FACE = "int feed(int,int,int,int,int) int back(int) int read() int place()"
            + " int letter(int,int) int dies(int,int) int fee(int,int) int clerk(int) int barred(int,int)"
            + " int rumour(int,int,int) int death(int,int) int takeBack(int,int) int early(int,int)"
            + " int date(int,int,int) int flood(int,int) int annul(int) int fact(int,int) int weighs(int,int,int)"
            + " int run(int,int,int,int) int opened(int,int,int) int why(int,int,int) int harm(int) int tooSoon(int)"
            + " int wrong(int,int,int) int late(int,int,int) int watch(int,int) int gain(int,int)"
            + " int income(int,int,int) int next(int,int) int looks(int,int) int need(int,int,int,int,int)"
            + " int asks(int) int ring(int) int rings() int burn() int future(int,int,int,int,int)"
            + " long lives(int,int,int) long odds(int,int,int) int life(int,int,int) int chance(int,int,int,int)"
            + " boolean hold(int) boolean restore(int) int count(int)";

    private static void face() {
        Set<String> due = new TreeSet<>();
        Matcher matcher = Pattern.compile("\\w+ \\w+\\([^)]*\\)").matcher(FACE);
        while (matcher.find()) {
            due.add(matcher.group());
        }
        Set<String> publics = new TreeSet<>();
        Set<String> names = new HashSet<>();
        for (Method method : AfterOffice.class.getDeclaredMethods()) {
            if (Modifier.isPublic(method.getModifiers())) {
                publics.add(described(method));
                names.add(method.getName());
            }
        }
        CHECKS.same("public methods, those missing or beyond: " + difference(due, publics), due.equals(publics), true);
        CHECKS.same("public constructors", AfterOffice.class.getConstructors().length, 1);
        CHECKS.same("public fields", AfterOffice.class.getFields().length, 1);
        CHECKS.same("NONE", AfterOffice.NONE, -1);
        CHECKS.same("final", Modifier.isFinal(AfterOffice.class.getModifiers()), true);
        for (Class<?> one : classes()) {
            for (Method method : one.getDeclaredMethods()) {
                boolean faceless = !Modifier.isPublic(method.getModifiers());
                CHECKS.same(one + " has its own " + method.getName(), faceless && names.contains(method.getName()), false);
                CHECKS.same(method + " has too many parameters", method.getParameterCount() > 7, false);
            }
        }
    }

    /* Names of arguments too, in their order: the document's own lines. */
    private static void faceOfTheDocument(String document, String source) {
        Matcher block = Pattern.compile("(?s)## The public face\\s+```java\n(.*?)```").matcher(document);
        CHECKS.same("a public face in the document", block.find(), true);
        Set<String> due = publicLines(block.group(1));
        CHECKS.same("lines of the face, those missing or beyond: " + difference(due, publicLines(source)),
                due.equals(publicLines(source)), true);
        CHECKS.same("a class, a constant, a constructor and the methods", due.size(), 3 + 43);
    }

    private static Set<String> publicLines(String text) {
        Set<String> lines = new TreeSet<>();
        Matcher matcher = Pattern.compile("(?m)^ *(public .*?) ?[;{]$").matcher(text);
        while (matcher.find()) {
            lines.add(matcher.group(1));
        }
        return lines;
    }

    private static String described(Method method) {
        List<String> types = new ArrayList<>();
        for (Class<?> type : method.getParameterTypes()) {
            types.add(type.getName());
        }
        return method.getReturnType().getName() + " " + method.getName() + "(" + String.join(",", types) + ")";
    }

    private static Set<String> difference(Set<String> a, Set<String> b) {
        Set<String> all = new TreeSet<>(a);
        all.addAll(b);
        all.removeIf(one -> a.contains(one) && b.contains(one));
        return all;
    }

    private static List<Class<?>> classes() {
        List<Class<?>> list = new ArrayList<>(List.of(AfterOffice.class));
        Collections.addAll(list, AfterOffice.class.getDeclaredClasses());
        return list;
    }

    private static void classesAndFields() {
        CHECKS.same("classes", classes().size() <= 12, true);
        for (Class<?> one : classes()) {
            int fields = 0;
            for (Field field : one.getDeclaredFields()) {
                boolean isStatic = Modifier.isStatic(field.getModifiers());
                fields += isStatic ? 0 : 1;
                CHECKS.same(field + " is static and not final", isStatic && !Modifier.isFinal(field.getModifiers()), false);
                boolean seen = Modifier.isPublic(field.getModifiers()) && !field.getName().equals("NONE");
                CHECKS.same(field + " is public", seen, false);
            }
            CHECKS.same("fields of " + one, fields <= 20, true);
            boolean inside = one != AfterOffice.class;
            CHECKS.same(one + " is not static", inside && !Modifier.isStatic(one.getModifiers()), false);
            CHECKS.same(one + " is public", inside && Modifier.isPublic(one.getModifiers()), false);
        }
    }

    private static void words(String source) {
        String bare = source.replaceAll("(?s)/\\*.*?\\*/", "").replaceAll("//[^\n]*", "").replaceAll("\"[^\"\n]*\"", "");
        String[] banned = {"throw", "throws", "try", "catch", "finally", "synchronized", "assert", "volatile", "native",
            "package", "protected", "instanceof", "record", "var", "Exception", "Random", "System\\.out", "Thread",
            "currentTimeMillis", "nanoTime", "hashCode", "equals", "toString", "Override", "goto"};
        for (String word : banned) {
            CHECKS.same("the word " + word, Pattern.compile("\\b" + word + "\\b").matcher(bare).find(), false);
        }
        CHECKS.same("a lambda", bare.contains("->"), false);
        CHECKS.same("a method reference", bare.contains("::"), false);
        CHECKS.same("an exact function", bare.contains("Exact("), false);
        Matcher library = Pattern.compile("\\b(Math|Integer|Long|Arrays|System|String)\\.(\\w+)").matcher(bare);
        Set<String> allowed = Set.of("Math.max", "Math.min", "Integer.bitCount", "Integer.numberOfTrailingZeros",
                "Long.numberOfTrailingZeros", "Arrays.fill", "System.arraycopy");
        while (library.find()) {
            CHECKS.same("the library's " + library.group(), allowed.contains(library.group()), true);
        }
        Matcher imports = Pattern.compile("import ([\\w.*]+);").matcher(bare);
        while (imports.find()) {
            CHECKS.same("import of " + imports.group(1), imports.group(1).equals("java.util.Arrays"), true);
        }
        for (int i = 0; i < source.length(); i++) {
            if (source.charAt(i) > 126) {
                CHECKS.same("sign at " + i, source.charAt(i), 0);
            }
        }
    }

    private static void methodLengths(String source) {
        String[] lines = source.split("\n");
        int start = -1;
        String closing = "";
        for (int i = 0; i < lines.length; i++) {
            Matcher head = Pattern.compile("^( {4}| {8})\\S.*\\) \\{$").matcher(lines[i]);
            if (start < 0 && head.find()) {
                start = i;
                closing = head.group(1) + "}";
            } else if (start >= 0 && lines[i].equals(closing)) {
                CHECKS.same("method at line " + (start + 1) + " is too long", i - start + 1 > 60, false);
                start = -1;
            }
        }
    }

    /* New objects outside constructors and field lines would fill the one room of a run. */
    private static void allocations(String source) {
        Matcher matcher = Pattern.compile("(?m)^ *(\\S.*\\bnew \\w.*)$").matcher(source);
        Set<String> kept = Set.of("slots[i] = new Facts();", "letters[i] = new Letter();");
        while (matcher.find()) {
            String line = matcher.group(1);
            boolean field = line.startsWith("final ");
            boolean plain = line.matches("\\w+ = new [\\w\\[\\]]+(\\([\\w, ]*\\))?;");
            boolean comment = line.startsWith("/*") || line.startsWith("//");
            CHECKS.same("an object made: " + line, field || plain || comment || kept.contains(line), true);
        }
    }

    private static long held(Object object, Set<Object> seen) throws IllegalAccessException {
        if (object == null || !seen.add(object)) {
            return 0;
        }
        Class<?> type = object.getClass();
        long sum = 0;
        if (type.isArray()) {
            int length = Array.getLength(object);
            for (int i = 0; i < length && !type.getComponentType().isPrimitive(); i++) {
                sum += held(Array.get(object, i), seen);
            }
            return sum + length;
        }
        for (Field field : type.getDeclaredFields()) {
            if (!Modifier.isStatic(field.getModifiers())) {
                sum++;
                field.setAccessible(true);
                sum += field.getType().isPrimitive() ? 0 : held(field.get(object), seen);
            }
        }
        return sum;
    }

    private static void room() throws IllegalAccessException {
        Set<Object> seen = Collections.newSetFromMap(new IdentityHashMap<>());
        long elements = held(new AfterOffice(), seen);
        System.out.println("LanguageTest: an office holds " + seen.size() + " objects, " + elements + " elements");
        CHECKS.same("elements of an object are too many", elements > 8000, false);
        CHECKS.same("objects of an object are too many", seen.size() > 150, false);
    }

    public static void main(String[] args) throws IOException, IllegalAccessException {
        Path root = Path.of(args.length > 0 ? args[0] : ".");
        String source = Files.readString(root.resolve("src/main/java/AfterOffice.java"));
        face();
        faceOfTheDocument(Files.readString(root.resolve("../shared/DOC.md")), source);
        classesAndFields();
        words(source);
        methodLengths(source);
        allocations(source);
        room();
        CHECKS.end();
    }
}
