import java.io.IOException;
import java.lang.reflect.Constructor;
import java.lang.reflect.Field;
import java.lang.reflect.Method;
import java.lang.reflect.Modifier;
import java.nio.file.Files;
import java.nio.file.Path;
import java.util.ArrayList;
import java.util.List;
import java.util.TreeSet;
import java.util.regex.Matcher;
import java.util.regex.Pattern;

/** The face of the class, and the rules of ../shared/LANGUAGE.md that its text shows. Runs in the project's folder. */
public final class LanguageTests {
    private static final String FACE = "bestTrade() burn(int) censor(int,int) count(int) fault() ifPassed(int,int) "
        + "leastLimit() letter(int,int) onShift(int,int) pass(int) put(long) read() restore(int) save(int) set(int,int) "
        + "strike(int,int) trade(int,int) undo() untilCome(int) why(int) wipe() word(int,int)";
    private static final int LONGEST_METHOD = 60;
    private static final int MOST_FIELDS = 20;

    private static final Due due = new Due();

    public static void main(String[] args) throws IOException {
        constants();
        methods();
        members();
        text(Files.readString(Path.of("src/main/java/CensoredThreads.java")));
        due.end("LanguageTests");
    }

    private static void constants() {
        due.is("NO_SUCH", CensoredThreads.NO_SUCH, -1);
        due.is("BAD_VALUE", CensoredThreads.BAD_VALUE, -2);
        due.is("BAD_TEXT", CensoredThreads.BAD_TEXT, -3);
        due.is("TOO_MANY", CensoredThreads.TOO_MANY, -4);
        due.is("NOT_POSSIBLE", CensoredThreads.NOT_POSSIBLE, -5);
        due.is("NONE", CensoredThreads.NONE, -6);
        due.is("READS", CensoredThreads.READS, 0);
        due.is("LIMIT", CensoredThreads.LIMIT, 1);
        due.is("TURNS", CensoredThreads.TURNS, 2);
    }

    private static void methods() {
        TreeSet<String> shown = new TreeSet<>();
        TreeSet<String> names = new TreeSet<>();
        for (Method method : CensoredThreads.class.getDeclaredMethods()) {
            if (Modifier.isPublic(method.getModifiers())) {
                StringBuilder types = new StringBuilder();
                for (Class<?> type : method.getParameterTypes()) {
                    types.append(types.isEmpty() ? "" : ",").append(type.getName());
                }
                shown.add(method.getName() + "(" + types + ")");
                names.add(method.getName());
                due.holds(method.getName() + " returns an int", method.getReturnType() == int.class);
            }
        }
        due.holds("the methods are " + FACE + ", not " + shown, String.join(" ", shown).equals(FACE));
        List<Class<?>> all = new ArrayList<>(List.of(CensoredThreads.class.getDeclaredClasses()));
        all.add(CensoredThreads.class);
        for (Class<?> type : all) {
            for (Method method : type.getDeclaredMethods()) {
                boolean isFace = type == CensoredThreads.class && Modifier.isPublic(method.getModifiers());
                due.holds(method + " bears no public name", isFace || !names.contains(method.getName()));
            }
        }
    }

    private static void members() {
        due.holds("public and final", CensoredThreads.class.getModifiers() == (Modifier.PUBLIC | Modifier.FINAL));
        for (Constructor<?> constructor : CensoredThreads.class.getDeclaredConstructors()) {
            due.holds("one public constructor", constructor.getModifiers() == Modifier.PUBLIC && constructor.getParameterCount() == 0);
        }
        for (Method method : CensoredThreads.class.getDeclaredMethods()) {
            int access = method.getModifiers() & (Modifier.PUBLIC | Modifier.PRIVATE);
            due.holds(method + " is public or private", access != 0);
        }
        int open = 0;
        for (Field field : CensoredThreads.class.getDeclaredFields()) {
            boolean isPublic = Modifier.isPublic(field.getModifiers());
            open += isPublic ? 1 : 0;
            due.holds(field + " is public or private", isPublic || Modifier.isPrivate(field.getModifiers()));
            due.holds(field + " is final if static", !Modifier.isStatic(field.getModifiers()) || Modifier.isFinal(field.getModifiers()));
        }
        due.is("public constants", open, 9);
        due.holds("twelve classes at most", CensoredThreads.class.getDeclaredClasses().length < 12);
        for (Class<?> type : CensoredThreads.class.getDeclaredClasses()) {
            due.holds(type + " is static", Modifier.isStatic(type.getModifiers()));
            int fields = 0;
            for (Field field : type.getDeclaredFields()) {
                fields += Modifier.isStatic(field.getModifiers()) ? 0 : 1;
            }
            due.holds(type + " has few fields", fields <= MOST_FIELDS);
        }
    }

    private static void text(String source) {
        due.holds("signs 1 to 126 alone", source.chars().allMatch(sign -> sign == '\n' || sign >= 32 && sign <= 126));
        String code = source.replaceAll("(?s)/\\*.*?\\*/", "").replaceAll("//[^\n]*", "");
        for (String word : List.of("package", "import", "throw", "throws", "try", "catch", "finally", "synchronized", "assert",
                "protected", "record", "String", "Object", "this", "instanceof", "System.out", "exit", "Exact")) {
            due.holds("no " + word, !Pattern.compile("\\b" + Pattern.quote(word) + "\\b").matcher(code).find());
        }
        due.holds("no lambda or method reference", !code.contains("->") && !code.contains("::"));
        methodsOf(code);
    }

    /** What a call makes stays in the room for good, so no method makes anything: only constructors and fields do. */
    private static void methodsOf(String code) {
        String pattern = "(?ms)^( {4}| {8})((?:public |private )?(?:static )?\\w+ (\\w+)\\([^)]*\\)) \\{\n(.*?)^\\1\\}";
        Matcher method = Pattern.compile(pattern).matcher(code);
        int found = 0;
        while (method.find()) {
            found++;
            String body = method.group(4);
            boolean isConstructor = method.group(3).equals("CensoredThreads");
            due.holds(method.group(2) + " makes nothing", isConstructor || !body.contains("new "));
            due.holds(method.group(2) + " is short", body.lines().count() <= LONGEST_METHOD);
        }
        due.holds("methods were found", found > 50);
    }
}
