import java.io.IOException;
import java.lang.reflect.Constructor;
import java.lang.reflect.Field;
import java.lang.reflect.Method;
import java.lang.reflect.Modifier;
import java.nio.file.Files;
import java.nio.file.Path;
import java.util.ArrayList;
import java.util.Collections;
import java.util.List;
import java.util.regex.Matcher;
import java.util.regex.Pattern;

/** The face of the document, and what of LANGUAGE.md can be seen from outside or from single lines. */
public final class FaceAndLanguage {
    private static final String[] FACE = {
        "boolean mint(int, int, int)", "int feed(int, int, int, int, int)", "int law(int)", "int sheet(int)",
        "int post(int)", "int days(int)", "int tried(int, int)", "int letterIs(int, int)", "int stampIs(int, int)",
        "int comes(int, int, int)", "int atRest(int, int)", "int meet(int, int, int)", "int again(int, int)",
        "int home(int, int)", "int lying(int)", "int stamped(int, int, int, int, int)", "int hang(int, int, int)",
        "int falseOnes(int, int, int, int, int)", "int printed(int)", "int ship(int, int)",
        "int mule(int, int, int)", "int marks(int, int)", "int franked(int, int)", "int exchange(int, int)",
        "boolean seed(int)", "int keep()", "boolean undo()", "int check(int)", "int count(int)"};
    private static final String[] RULED_OUT = {"throw", "throws", "try", "catch", "synchronized", "assert", "->", "::",
        "System.out", "Exact(", "Random", "currentTimeMillis", "nanoTime", "protected", "Object", "new Thread",
        "toString(", "hashCode(", "package "};
    private static final int MOST_LINES = 60;

    private static int wrong = 0;

    private static void due(boolean right, String what) {
        if (!right) {
            wrong++;
            System.out.println("not as due: " + what);
        }
    }

    public static void main(String[] args) throws IOException {
        methods();
        fieldsAndConstructors();
        classesInside();
        lines(Files.readString(Path.of("src/main/java/HomesickStamps.java")));
        System.out.println(wrong == 0 ? "all is as due" : wrong + " things are not as due");
        if (wrong != 0) {
            System.exit(1);
        }
    }

    private static String told(Method method) {
        StringBuilder built = new StringBuilder(method.getReturnType() + " " + method.getName() + "(");
        for (Class<?> type : method.getParameterTypes()) {
            built.append(built.charAt(built.length() - 1) == '(' ? "" : ", ").append(type);
        }
        return built.append(')').toString();
    }

    private static void methods() {
        List<String> open = new ArrayList<>();
        List<String> openNames = new ArrayList<>();
        for (Method method : HomesickStamps.class.getDeclaredMethods()) {
            if (Modifier.isPublic(method.getModifiers())) {
                open.add(told(method));
                openNames.add(method.getName());
            }
        }
        List<String> want = new ArrayList<>(List.of(FACE));
        Collections.sort(open);
        Collections.sort(want);
        due(open.equals(want), "the public methods: " + open);
        List<Class<?>> all = new ArrayList<>(List.of(HomesickStamps.class.getDeclaredClasses()));
        all.add(HomesickStamps.class);
        for (Class<?> each : all) {
            for (Method method : each.getDeclaredMethods()) {
                boolean mine = each != HomesickStamps.class || !Modifier.isPublic(method.getModifiers());
                due(!mine || !openNames.contains(method.getName()), "a method with a public one's name: " + method);
                due(method.getParameterCount() <= 7, "more than seven parameters: " + method);
                due(each != HomesickStamps.class || Modifier.isPublic(method.getModifiers())
                    || Modifier.isPrivate(method.getModifiers()), "a method that is not private: " + method);
            }
        }
    }

    private static void fieldsAndConstructors() {
        due(Modifier.isPublic(HomesickStamps.class.getModifiers()), "a public class");
        due(Modifier.isFinal(HomesickStamps.class.getModifiers()), "a final class");
        for (Field field : HomesickStamps.class.getDeclaredFields()) {
            boolean none = field.getName().equals("NONE") && Modifier.isPublic(field.getModifiers())
                && Modifier.isStatic(field.getModifiers()) && field.getType() == int.class;
            due(none || Modifier.isPrivate(field.getModifiers()), "a field: " + field);
            due(!Modifier.isStatic(field.getModifiers()) || Modifier.isFinal(field.getModifiers()), "static: " + field);
        }
        Constructor<?>[] makers = HomesickStamps.class.getDeclaredConstructors();
        due(makers.length == 1 && makers[0].getParameterCount() == 0 && Modifier.isPublic(makers[0].getModifiers()),
            "one public constructor");
    }

    private static void classesInside() {
        Class<?>[] inside = HomesickStamps.class.getDeclaredClasses();
        due(inside.length < 12, "at most twelve classes in all");
        for (Class<?> each : inside) {
            int fields = 0;
            for (Field field : each.getDeclaredFields()) {
                boolean fixed = Modifier.isStatic(field.getModifiers());
                fields += fixed ? 0 : 1;
                due(!fixed || Modifier.isFinal(field.getModifiers()), "static and not final: " + field);
            }
            due(fields <= 20, "at most twenty fields: " + each);
            due(Modifier.isStatic(each.getModifiers()) && !Modifier.isPublic(each.getModifiers()), "static: " + each);
        }
    }

    private static void lines(String source) {
        String code = Pattern.compile("/\\*.*?\\*/|//[^\n]*", Pattern.DOTALL).matcher(source).replaceAll("");
        for (String word : RULED_OUT) {
            boolean letters = Character.isLetter(word.charAt(0)) && Character.isLetter(word.charAt(word.length() - 1));
            String sought = letters ? "\\b" + Pattern.quote(word) + "\\b" : Pattern.quote(word);
            due(!Pattern.compile(sought).matcher(code).find(), "ruled out: " + word);
        }
        Matcher imports = Pattern.compile("import ([^;]*);").matcher(code);
        while (imports.find()) {
            due(imports.group(1).equals("java.util.Arrays"), "import " + imports.group(1));
        }
        int began = 0;
        int number = 0;
        for (String line : source.split("\n")) {
            number++;
            due(line.chars().allMatch(sign -> sign >= 32 && sign < 127), "a sign in line " + number);
            if (line.matches(" {4}(    )?[^ */].*\\) \\{")) {
                began = number;
            }
            if (line.matches(" {4}(    )?}")) {
                due(began == 0 || number - began <= MOST_LINES, "a long method in line " + began);
                began = 0;
            }
        }
    }
}
