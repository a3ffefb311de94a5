import java.lang.reflect.Constructor;
import java.lang.reflect.Field;
import java.lang.reflect.Method;
import java.lang.reflect.Modifier;
import java.nio.charset.StandardCharsets;
import java.nio.file.Files;
import java.nio.file.Path;
import java.util.ArrayList;
import java.util.Arrays;
import java.util.List;
import java.util.Set;
import java.util.TreeSet;
import java.util.regex.Matcher;
import java.util.regex.Pattern;

/** The face of the document, what of LANGUAGE.md a program can see, and how much an object makes. */
public final class RulesTest {
    private static final Path SOURCE = Path.of("src/main/java/RookWords.java");
    private static final Path DOCUMENT = Path.of("../shared/DOC.md");
    private static final String[] FORBIDDEN = {"throw", "throws", "try", "catch", "finally", "synchronized", "assert",
        "protected", "package", "native", "volatile", "transient", "hashCode", "toString", "Object", "Thread",
        "Random", "Exact", "Iterator", "HashMap", "Class", "var"};

    private static int wrong;

    private static void check(boolean holds, String what) {
        if (!holds) {
            wrong++;
            System.out.println("RulesTest: " + what);
        }
    }

    private static String withoutTexts(String source) {
        return source.replaceAll("(?s)/\\*.*?\\*/", "").replaceAll("//[^\n]*", "")
            .replaceAll("\"[^\"\n]*\"", "\"\"").replaceAll("'[^'\n]*'", "' '");
    }

    /** The methods that the document's face tells, each as its result, name and the types that it takes. */
    private static Set<String> faceOfDocument() throws Exception {
        Set<String> face = new TreeSet<>();
        String document = Files.readString(DOCUMENT, StandardCharsets.UTF_8);
        String code = document.substring(document.indexOf("```java"), document.indexOf("## Terms"));
        Matcher line = Pattern.compile("public (int|long) (\\w+)\\(([^)]*)\\);").matcher(code);
        while (line.find()) {
            StringBuilder types = new StringBuilder();
            for (String one : line.group(3).split(",")) types.append(one.trim().split(" ")[0]).append(' ');
            face.add(line.group(1) + " " + line.group(2) + " " + types.toString().trim());
        }
        return face;
    }

    private static void checkFace() throws Exception {
        Set<String> face = new TreeSet<>();
        Set<String> names = new TreeSet<>();
        for (Method method : RookWords.class.getDeclaredMethods()) {
            int is = method.getModifiers();
            check(Modifier.isPublic(is) || Modifier.isPrivate(is), method.getName() + " is package-visible");
            if (Modifier.isPublic(is)) {
                StringBuilder types = new StringBuilder();
                for (Class<?> type : method.getParameterTypes()) types.append(type.getName()).append(' ');
                face.add(method.getReturnType() + " " + method.getName() + " " + types.toString().trim());
                names.add(method.getName());
            }
        }
        check(face.equals(faceOfDocument()), "the face is not the document's: " + face);
        check(face.size() == 49, "the face has " + face.size() + " methods");
        checkMembers(RookWords.class, names);
        for (Class<?> inside : RookWords.class.getDeclaredClasses()) checkMembers(inside, names);
        Set<String> constants = new TreeSet<>();
        for (Field field : RookWords.class.getFields()) constants.add(field.getName());
        check(constants.equals(new TreeSet<>(Arrays.asList("NONE", "BAD", "STATE", "FULL", "OVER", "NO"))),
            "the public fields are " + constants);
        Constructor<?>[] makers = RookWords.class.getDeclaredConstructors();
        check(makers.length == 1 && Modifier.isPublic(makers[0].getModifiers()), "there is one public constructor");
        check(Modifier.isFinal(RookWords.class.getModifiers()), "the class is final");
    }

    private static void checkMembers(Class<?> one, Set<String> names) {
        int fields = 0;
        for (Field field : one.getDeclaredFields()) {
            int is = field.getModifiers();
            if (Modifier.isStatic(is)) {
                check(Modifier.isFinal(is), one.getName() + "." + field.getName() + " is static and not final");
            } else {
                fields++;
            }
            check(one != RookWords.class || Modifier.isPrivate(is) || Modifier.isStatic(is) && Modifier.isPublic(is),
                field.getName() + " is package-visible");
        }
        check(fields <= 20, one.getName() + " has " + fields + " fields");
        if (one == RookWords.class) {
            for (Method method : one.getDeclaredMethods()) {
                check(!Modifier.isPrivate(method.getModifiers()) || !names.contains(method.getName()),
                    "a private method is named " + method.getName());
            }
            return;
        }
        check(Modifier.isStatic(one.getModifiers()), one.getName() + " is not static");
        for (Method method : one.getDeclaredMethods()) {
            check(!names.contains(method.getName()), one.getName() + " has a method " + method.getName());
            check(method.getParameterCount() <= 7, method.getName() + " takes more than seven");
        }
    }

    private static void checkSource() throws Exception {
        String source = Files.readString(SOURCE, StandardCharsets.UTF_8);
        for (char sign : source.toCharArray()) check(sign < 128, "a sign beyond 127: " + (int) sign);
        String code = withoutTexts(source);
        for (String word : FORBIDDEN) {
            check(!Pattern.compile("\\b" + word + "\\b").matcher(code).find(), "the source has " + word);
        }
        check(!code.contains("->") && !code.contains("::"), "the source has a lambda or a method reference");
        check(!Pattern.compile("\\bstatic\\s*\\{").matcher(code).find(), "the source has a static block");
        List<String> imports = new ArrayList<>();
        Matcher line = Pattern.compile("import ([^;]+);").matcher(code);
        while (line.find()) imports.add(line.group(1));
        check(imports.equals(List.of("java.util.Arrays")), "the imports are " + imports);
        check(RookWords.class.getDeclaredClasses().length < 12, "there are more than twelve classes");
        checkLengths(source);
    }

    private static void checkLengths(String source) {
        int from = 0;
        String[] lines = source.split("\n");
        for (int l = 0; l < lines.length; l++) {
            if (lines[l].matches("( {4}| {8})(public|private|static|int|long|boolean|void)?.*\\) \\{")) from = l;
            if (lines[l].matches("( {4}| {8})\\}")) check(l - from < 60, "a method of more than sixty lines at " + from);
        }
    }

    /** A loop of calls must leave no more than the tables of ALL STEPS, since a run's room is small. */
    private static void checkRoom() {
        com.sun.management.ThreadMXBean counter =
            (com.sun.management.ThreadMXBean) java.lang.management.ManagementFactory.getThreadMXBean();
        long thread = Thread.currentThread().getId();
        RookWords warm = new RookWords();
        busy(warm);
        long before = counter.getThreadAllocatedBytes(thread);
        RookWords x = new RookWords();
        long made = counter.getThreadAllocatedBytes(thread) - before;
        busy(x);
        long first = counter.getThreadAllocatedBytes(thread) - before;
        for (int again = 0; again < 20; again++) busy(x);
        long later = counter.getThreadAllocatedBytes(thread) - before - first;
        check(made < 40_000, "an object takes " + made + " bytes");
        check(first < 120_000, "an object and its tables take " + first + " bytes");
        check(later < 5_000, "calls that were made before take " + later + " bytes more");
    }

    private static void busy(RookWords x) {
        for (int n = 1; n <= 6; n++) {
            x.steps(0, n, n);
            x.cheapest(0, 1, 0);
            x.listed(0, 1, 0, 0);
            x.hits(0, 1);
            x.like(0, 0);
            x.classes(n, 0, 0);
            x.fits(n, 0);
            x.all(n, 0, 0);
            x.of(0, 3);
            x.lots(0, 40, n, 0);
            x.odds(0, 0);
            x.make(0, 5, n);
            x.times(0);
            x.add(0, 1);
            x.clear();
            x.order(0, 1);
            x.write(0);
            x.feed('U');
            x.read(0);
            x.image();
            x.cell(0, 0, 0);
            x.undo();
            x.restore();
            x.tape(0, 1, 60);
            x.judge(0, 0, 0);
        }
    }

    public static void main(String[] args) throws Exception {
        checkFace();
        checkSource();
        checkRoom();
        System.out.println(wrong == 0 ? "RulesTest: all rules are kept" : "RulesTest: " + wrong + " are not");
        if (wrong != 0) System.exit(1);
    }
}
