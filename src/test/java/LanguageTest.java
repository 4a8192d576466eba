import java.io.IOException;
import java.lang.reflect.Field;
import java.lang.reflect.Method;
import java.lang.reflect.Modifier;
import java.nio.file.Files;
import java.nio.file.Path;
import java.util.HashSet;
import java.util.Set;
import java.util.TreeSet;
import java.util.regex.Matcher;
import java.util.regex.Pattern;

/** What of LANGUAGE.md can be read off the source and the compiled class. */
public final class LanguageTest {
    private static final String FACE = "int row(int,int) int lay(int,int,int) int at(int,int) int tear(int) "
        + "int copy(int,int,int,int,int) int mean(int) int text(int,int) int put(int,int,int) int fault(int) "
        + "int village(int) int one(int,int) int mark(int,int) int debt(int,int) int law(int) int cards(int,int) "
        + "int habit(int,int,int) int empty(int) int when(int) int hour(int) int judge(int) int worth(int) "
        + "int best(int) int ways() int soonest() int rings() int few(int,int) int call() int stay(int) "
        + "int against(int,int) int family(int) int pay(int,int) int unpay(int) int paid() int keep(int) int on(int) "
        + "int must(int,int) int liars(int) int asked() long upper() long lower() int count(int) int finding() "
        + "int findings(int) long digest()";

    private static final Set<Class<?>> CONSTANTS = Set.of(int.class, long.class, boolean.class, char.class,
        String.class, int[].class, long[].class, char[].class, byte[].class);

    public static void main(String[] args) throws IOException {
        face();
        String source = Files.readString(Path.of("src/main/java/EmptyHouse.java"));
        String code = source.replaceAll("(?s)/\\*.*?\\*/", "").replaceAll("//[^\\n]*", "");
        forbiddenWords(code);
        library(code);
        makesObjectsOnlyAtFirst(code);
        methodsAreShort(code);
        Due.end();
    }

    private static void face() {
        Set<String> due = new TreeSet<>();
        Matcher matcher = Pattern.compile("(int|long) \\w+\\([^)]*\\)").matcher(FACE);
        while (matcher.find()) {
            due.add(matcher.group());
        }
        Set<String> got = new TreeSet<>();
        Set<String> publicNames = new HashSet<>();
        for (Method method : EmptyHouse.class.getDeclaredMethods()) {
            if (!Modifier.isPrivate(method.getModifiers())) {
                StringBuilder form = new StringBuilder(method.getReturnType() + " " + method.getName() + "(");
                for (Class<?> type : method.getParameterTypes()) {
                    form.append(form.charAt(form.length() - 1) == '(' ? "" : ",").append(type);
                }
                got.add(form + ")");
                publicNames.add(method.getName());
            }
        }
        Due.is("methods of the face", due.size(), 44);
        Due.is("the face is " + got + ", due is " + due, got.equals(due) ? 1 : 0, 1);
        Due.is("constructors", EmptyHouse.class.getDeclaredConstructors().length, 1);
        Due.is("final", Modifier.isFinal(EmptyHouse.class.getModifiers()) ? 1 : 0, 1);
        Set<String> constants = new TreeSet<>();
        for (Field field : EmptyHouse.class.getDeclaredFields()) {
            if (!Modifier.isPrivate(field.getModifiers())) {
                constants.add(field.getName());
            }
        }
        Due.is("constants are " + constants,
            constants.equals(new TreeSet<>(Set.of("BAD", "FULL", "FINDING", "STATE", "SPENT", "NONE"))) ? 1 : 0, 1);
        inside(publicNames);
    }

    private static void inside(Set<String> publicNames) {
        Class<?>[] classes = EmptyHouse.class.getDeclaredClasses();
        Due.is("at most twelve classes", classes.length < 12 ? 1 : 0, 1);
        for (Class<?> one : classes) {
            Due.is(one + " is static", Modifier.isStatic(one.getModifiers()) ? 1 : 0, 1);
            fieldsOf(one);
            namesIn(one, publicNames);
        }
        fieldsOf(EmptyHouse.class);
        for (Method method : EmptyHouse.class.getDeclaredMethods()) {
            if (Modifier.isPrivate(method.getModifiers())) {
                Due.is(method + " bears a public name", publicNames.contains(method.getName()) ? 1 : 0, 0);
            }
        }
    }

    private static void fieldsOf(Class<?> one) {
        int fields = 0;
        for (Field field : one.getDeclaredFields()) {
            boolean isStatic = Modifier.isStatic(field.getModifiers());
            fields += isStatic ? 0 : 1;
            Due.is(field + " is static and not final", isStatic && !Modifier.isFinal(field.getModifiers()) ? 1 : 0, 0);
            Due.is(field + " is of a listed type", !isStatic || CONSTANTS.contains(field.getType()) ? 1 : 0, 1);
        }
        Due.is(one + " has some twenty fields at most", fields <= 20 ? 1 : 0, 1);
    }

    private static void namesIn(Class<?> one, Set<String> publicNames) {
        for (Method method : one.getDeclaredMethods()) {
            Due.is(method + " bears a public name", publicNames.contains(method.getName()) ? 1 : 0, 0);
            Due.is(method + " takes at most seven", method.getParameterCount() <= 7 ? 1 : 0, 1);
        }
    }

    private static void forbiddenWords(String code) {
        for (String word : new String[] {"throw", "throws", "try", "catch", "finally", "synchronized", "assert", "null",
            "System.out", "Random", "Exact", "Thread", "->", "::", "double", "float", "equals", "hashCode", "toString"}) {
            boolean letters = Character.isLetter(word.charAt(0));
            String form = letters ? "\\b" + Pattern.quote(word) + "\\b" : Pattern.quote(word);
            Due.is("'" + word + "' stands in the code", Pattern.compile(form).matcher(code).find() ? 1 : 0, 0);
        }
        for (int i = 0; i < code.length(); i++) {
            if (code.charAt(i) > 126) {
                Due.is("a sign above 126 at " + i, code.charAt(i), 0);
            }
        }
    }

    private static void library(String code) {
        Set<String> listed = Set.of("Arrays.fill", "System.arraycopy", "Math.max", "Math.min", "Math.abs",
            "Integer.bitCount");
        Matcher matcher = Pattern.compile("\\b(Arrays|System|Math|Integer|Long|String)\\.\\w+").matcher(code);
        while (matcher.find()) {
            Due.is(matcher.group() + " is listed", listed.contains(matcher.group()) ? 1 : 0, 1);
        }
        Matcher imports = Pattern.compile("import ([^;]+);").matcher(code);
        while (imports.find()) {
            Due.is("import of " + imports.group(1), imports.group(1).equals("java.util.Arrays") ? 1 : 0, 1);
        }
    }

    /** All rows are made with the object and used again: a run of calls makes nothing more. */
    private static void makesObjectsOnlyAtFirst(String code) {
        for (String line : code.split("\n")) {
            if (line.contains("new ")) {
                boolean field = line.matches("\\s*(private |final )+.*= new .*;");
                Due.is("made outside a field: " + line.trim(), field ? 1 : 0, 1);
            }
        }
    }

    private static void methodsAreShort(String code) {
        int start = 0;
        String[] lines = code.split("\n", -1);
        Pattern head = Pattern.compile("( {4}| {8})(public |private |static |final )*[\\w\\[\\]]+ ?\\w*\\(.*\\{$");
        for (int i = 0; i < lines.length; i++) {
            if (head.matcher(lines[i]).matches()) {
                start = i;
            }
            if (lines[i].matches(" {4}\\}| {8}\\}") && start > 0) {
                Due.is("lines of " + lines[start].trim(), i - start <= 60 ? 1 : 0, 1);
            }
        }
    }
}
