import java.lang.reflect.Constructor;
import java.lang.reflect.Field;
import java.lang.reflect.Method;
import java.lang.reflect.Modifier;
import java.nio.file.Files;
import java.nio.file.Path;
import java.util.ArrayList;
import java.util.Arrays;
import java.util.HashSet;
import java.util.List;
import java.util.Set;
import java.util.TreeSet;
import java.util.regex.Matcher;
import java.util.regex.Pattern;

/** The public face of the document, and what of LANGUAGE.md can be seen from outside or in the text. */
public final class FaceTest {
    private static final Due DUE = new Due("FaceTest");
    private static final String FACE = """
        int jumper(int, int)
        int jumpers(int, int, int)
        int mend(int, int, int)
        int of(int, int)
        int feed(int)
        int law()
        int carried(int)
        int down(int, int, int)
        int drop(int, int, int)
        int spotFor(int, int, int)
        int countFor(int, int, int)
        int orderFor(int, int)
        int pass(int, int, int)
        int runIn(int, int)
        int room(int)
        int last(int, int)
        int sticks(int, int, int, int)
        long sure(int, int)
        long mean(int, int, int, int)
        int paper(int)
        int windBy(int, int)
        int judge(int, int)
        int fromWhere(int, int)
        int which(int, int, int)
        int drawn(int, int, int, int)
        int begin(int)
        int go(int, int)
        int over()
        int led(int)
        int image()
        int back()
        int undo()
        int redo()
        int body(int)
        int act(int, int, int)
        int trace(int)
        int keep(int, int)
        int row(int, int, int)
        int put(int, int, long)
        long element(int, int)
        int shift(int, int, int, int, int)
        int taken(int, int)
        int count(int)
        """;

    public static void main(String[] args) throws Exception {
        face();
        constants();
        classesInside();
        text(Files.readString(Path.of("src/main/java/OutByTurns.java")));
        DUE.end();
    }

    private static List<Class<?>> classes() {
        List<Class<?>> classes = new ArrayList<>(Arrays.asList(OutByTurns.class.getDeclaredClasses()));
        classes.add(OutByTurns.class);
        return classes;
    }

    private static void face() {
        Set<String> found = new TreeSet<>();
        for (Method method : OutByTurns.class.getDeclaredMethods()) {
            if (!Modifier.isPrivate(method.getModifiers())) {
                String parameters = Arrays.toString(method.getParameterTypes());
                found.add(method.getReturnType() + " " + method.getName()
                    + "(" + parameters.substring(1, parameters.length() - 1) + ")");
                DUE.is(method.getName() + " is public and no more", method.getModifiers(), Modifier.PUBLIC);
            }
        }
        DUE.holds("the face is " + found, found.equals(new TreeSet<>(FACE.lines().toList())));
        Constructor<?>[] constructors = OutByTurns.class.getDeclaredConstructors();
        DUE.is("constructors", constructors.length, 1);
        DUE.is("its parameters", constructors[0].getParameterCount(), 0);
        DUE.is("it is public", constructors[0].getModifiers(), Modifier.PUBLIC);
        DUE.is("the class", OutByTurns.class.getModifiers(), Modifier.PUBLIC | Modifier.FINAL);
    }

    private static void constants() throws Exception {
        Set<String> found = new TreeSet<>();
        for (Field field : OutByTurns.class.getDeclaredFields()) {
            if (!Modifier.isPrivate(field.getModifiers())) {
                found.add(field.getName() + " " + field.getInt(null));
                DUE.is(field.getName(), field.getModifiers(), Modifier.PUBLIC | Modifier.STATIC | Modifier.FINAL);
            }
        }
        DUE.holds("the constants are " + found, found.equals(
            Set.of("BAD -1", "NOT -2", "FULL -3", "STATE -5", "VOID -2000000000")));
    }

    private static void classesInside() {
        Set<String> publicNames = new HashSet<>();
        for (Method method : OutByTurns.class.getMethods()) {
            publicNames.add(method.getName());
        }
        DUE.holds("at most twelve classes", classes().size() <= 12);
        for (Class<?> inside : classes()) {
            boolean outside = inside == OutByTurns.class;
            DUE.holds(inside + " is static", outside || Modifier.isStatic(inside.getModifiers()));
            DUE.holds(inside + " is not public", outside || !Modifier.isPublic(inside.getModifiers()));
            DUE.is(inside + " holds no classes", outside ? 0 : inside.getDeclaredClasses().length, 0);
            int fields = 0;
            for (Field field : inside.getDeclaredFields()) {
                boolean constant = Modifier.isStatic(field.getModifiers());
                fields += constant ? 0 : 1;
                DUE.holds(field + " is final if static", !constant || Modifier.isFinal(field.getModifiers()));
            }
            DUE.holds(inside + " has some twenty fields", fields <= 20);
            for (Method method : inside.getDeclaredMethods()) {
                DUE.holds(method + " takes seven at most", method.getParameterCount() <= 7);
                DUE.holds(method + " bears no public name", Modifier.isPublic(method.getModifiers()) && outside
                    || !publicNames.contains(method.getName()));
            }
        }
    }

    private static void text(String source) {
        String code = source.replaceAll("(?s)/\\*.*?\\*/", "").replaceAll("//[^\n]*", "");
        String plain = code.replaceAll("'(\\\\.|[^'])'", "' '").replaceAll("\"[^\"]*\"", "\"\"");
        Matcher forbidden = Pattern.compile("\\b(throw|throws|try|catch|synchronized|assert|package|record|var|"
            + "instanceof|Object|hashCode|float|double|finalize|native|volatile|transient)\\b|->|::|@|\\bstatic\\s*\\{")
            .matcher(plain);
        DUE.holds("no word that LANGUAGE.md rules out", !forbidden.find());
        Matcher imports = Pattern.compile("import ([^;]*);").matcher(plain);
        while (imports.find()) {
            DUE.holds("import of " + imports.group(1), imports.group(1).equals("java.util.Arrays"));
        }
        Matcher library = Pattern.compile("\\b(System|Math|Arrays|Integer|Long|String|StringBuilder)\\.(\\w+)").matcher(plain);
        Set<String> allowed = Set.of("System.arraycopy", "Math.abs", "Math.max", "Math.min", "Arrays.fill");
        while (library.find()) {
            DUE.holds("use of " + library.group(), allowed.contains(library.group()));
        }
        DUE.holds("no made-up texts", !plain.contains("new String"));
        DUE.holds("signs of 1 to 127 alone", source.chars().allMatch(c -> c >= 1 && c <= 127));
        lengths(source.lines().toList());
    }

    private static void lengths(List<String> lines) {
        int began = 0;
        for (int i = 0; i < lines.size(); i++) {
            String line = lines.get(i);
            if (line.matches(" {4,8}(public|private|static|int|long|boolean|void|[A-Z]\\w*)\\b.*\\) \\{")) {
                began = i;
            }
            if (line.matches(" {4,8}\\}") && began > 0) {
                DUE.holds("the method at line " + (began + 1) + " is short", i - began < 60);
                began = 0;
            }
        }
    }
}
