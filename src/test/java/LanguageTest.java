import java.io.IOException;
import java.lang.reflect.Constructor;
import java.lang.reflect.Field;
import java.lang.reflect.Method;
import java.lang.reflect.Modifier;
import java.nio.file.Files;
import java.nio.file.Path;
import java.util.ArrayList;
import java.util.HashSet;
import java.util.List;
import java.util.Set;
import java.util.TreeSet;
import java.util.regex.Matcher;
import java.util.regex.Pattern;

/** What of ../shared/LANGUAGE.md can be seen from the class's source and its members. Run it from the project's root. */
public final class LanguageTest {
    private static final Path SOURCE = Path.of("src/main/java/ScheduleDesk.java");

    private static final String[] FACE = {"int teams(int)", "int game(int,int,long,long,int,int)", "long of(int,int)",
        "int voids(int,int)", "long cap(long)", "int drop()", "long matrix(int,int,int,int)", "long right(int,int,int)",
        "long det(int,int)", "long cofactor(int,int,int,int)", "long rating(int,int,int,int)", "int rank(int,int,int)",
        "long schedule(int,int,int,int)", "int predict(int,int,int,int)", "int upsets(int,int)",
        "int guess(int,int,long,long)", "long would(int,int,int,int)", "long without(int,int,int,int,int)",
        "int upturns(int,int,int)", "int duel(int,int)", "int beaten(int,int,int)", "int rings(int)",
        "int fixture(int,int)", "int clears()", "int score(int,int,int)", "int place(int,int,int)", "int feed(int)",
        "int clear()", "int results()", "int pick()", "int voidAll(int)", "int spell()", "int paper(int)",
        "int told(int)", "int list(int,int)", "int set(int,int,long)", "long get(int,int)",
        "int judge(int,int,int,int)", "int image()", "int undo()"};

    /** What the rules leave out, or what this class has no need of. */
    private static final String[] LEFT_OUT = {"\\bimport\\b", "\\bpackage\\b", "\\bthrow\\b", "\\bthrows\\b", "\\btry\\b",
        "\\bcatch\\b", "\\bsynchronized\\b", "\\bassert\\b", "->", "::", "Exact\\b", "\\bSystem\\.(?!arraycopy)",
        "\\bThread\\b", "\\bdouble\\b", "\\bfloat\\b", "\\bObject\\b", "\\bhashCode\\b", "\\btoString\\b", "\\bequals\\b",
        "\\bwhile\\b", "\\bvar\\b", "@\\w+", "\" *\\+", "\\+ *\"", "\\bstatic *\\{", "\\bprotected\\b", "\\binstanceof\\b"};

    private static int wrong = 0;

    private static void due(boolean is, String what) {
        if (!is) {
            wrong++;
            System.out.println("not so: " + what);
        }
    }

    private static String signature(Method method) {
        StringBuilder text = new StringBuilder(method.getReturnType().getSimpleName()).append(' ');
        text.append(method.getName()).append('(');
        for (Class<?> type : method.getParameterTypes()) {
            text.append(text.charAt(text.length() - 1) == '(' ? "" : ",").append(type.getSimpleName());
        }
        return text.append(')').toString();
    }

    private static void face() {
        Set<String> names = new HashSet<>();
        Set<String> told = new TreeSet<>();
        for (Method method : ScheduleDesk.class.getDeclaredMethods()) {
            if (!Modifier.isPrivate(method.getModifiers())) {
                due(Modifier.isPublic(method.getModifiers()), method + " is public");
                due(!Modifier.isStatic(method.getModifiers()), method + " is no static one");
                told.add(signature(method));
                names.add(method.getName());
            }
        }
        due(told.equals(new TreeSet<>(List.of(FACE))), "the face's methods, and no others: " + told);
        int classModifiers = ScheduleDesk.class.getModifiers();
        due(Modifier.isPublic(classModifiers) && Modifier.isFinal(classModifiers), "the class is public and final");
        Constructor<?>[] constructors = ScheduleDesk.class.getDeclaredConstructors();
        due(constructors.length == 1 && Modifier.isPublic(constructors[0].getModifiers())
            && constructors[0].getParameterCount() == 0, "one public constructor");
        Set<String> constants = new TreeSet<>();
        for (Field field : ScheduleDesk.class.getDeclaredFields()) {
            if (!Modifier.isPrivate(field.getModifiers())) {
                constants.add(field.getName());
            }
        }
        due(constants.equals(new TreeSet<>(List.of("NONE", "BAD", "STATE", "FULL"))), "the constants: " + constants);
        privateNames(names);
    }

    private static void privateNames(Set<String> names) {
        List<Class<?>> classes = new ArrayList<>(List.of(ScheduleDesk.class.getDeclaredClasses()));
        due(classes.size() <= 11, "some twelve classes at most");
        classes.add(ScheduleDesk.class);
        for (Class<?> one : classes) {
            due(one == ScheduleDesk.class || Modifier.isStatic(one.getModifiers()), one + " is static");
            due(one == ScheduleDesk.class || !Modifier.isPublic(one.getModifiers()), one + " is not public");
            due(one.getDeclaredClasses().length == 0 || one == ScheduleDesk.class, one + " has no classes inside");
            int fields = 0;
            for (Field field : one.getDeclaredFields()) {
                boolean isStatic = Modifier.isStatic(field.getModifiers());
                due(!isStatic || Modifier.isFinal(field.getModifiers()), field + " is final");
                due(!isStatic || field.getType().isPrimitive(), field + " is a constant");
                fields += isStatic ? 0 : 1;
            }
            due(fields <= 20, one + " has some twenty fields at most");
            for (Method method : one.getDeclaredMethods()) {
                boolean isOfFace = one == ScheduleDesk.class && Modifier.isPublic(method.getModifiers());
                due(isOfFace || !names.contains(method.getName()), method + " has a name of its own");
                due(method.getParameterCount() <= 7, method + " takes seven parameters at most");
                due(!method.isSynthetic(), method + " is written out");
            }
        }
    }

    private static void words(String source) {
        String code = source.replaceAll("(?s)/\\*.*?\\*/", "").replaceAll("//[^\n]*", "");
        for (String word : LEFT_OUT) {
            Matcher found = Pattern.compile(word).matcher(code);
            due(!found.find(), "no " + word + " in the source");
        }
        due(source.chars().allMatch(c -> c == '\n' || c >= 32 && c < 127), "plain characters alone");
    }

    /** Methods begin at 4 or 8 blanks and end with a brace at as many. */
    private static void lengths(String source) {
        String[] lines = source.split("\n");
        Pattern head = Pattern.compile("( {4}| {8})[\\w\\[\\]].*\\) \\{");
        for (int i = 0; i < lines.length; i++) {
            Matcher m = head.matcher(lines[i]);
            if (m.matches()) {
                int end = i;
                while (!lines[end].equals(m.group(1) + "}")) {
                    end++;
                }
                due(end - i < 60, "short: " + lines[i].trim());
            }
        }
    }

    public static void main(String[] args) throws IOException {
        String source = Files.readString(SOURCE);
        face();
        words(source);
        lengths(source);
        System.out.println(wrong == 0 ? "the class keeps to the language" : wrong + " things are not so");
        if (wrong != 0) {
            System.exit(1);
        }
    }
}
