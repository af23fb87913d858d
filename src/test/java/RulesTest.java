import java.io.IOException;
import java.lang.reflect.Constructor;
import java.lang.reflect.Field;
import java.lang.reflect.Method;
import java.lang.reflect.Modifier;
import java.nio.file.Files;
import java.nio.file.Path;
import java.util.ArrayList;
import java.util.Arrays;
import java.util.List;
import java.util.Set;
import java.util.TreeSet;
import java.util.regex.Matcher;
import java.util.regex.Pattern;

/** The face of the document, and the rules of LANGUAGE.md that can be seen from outside. */
final class RulesTest {
    private static final String[] FACE = {
        "feed(long,long,long)int", "form()int", "turning(int,int)int", "end(long,int)int", "where(long,int)int",
        "meets(int,int)int", "round(int)int", "roots()long", "spiral(int,int)int", "rhymes(int)int", "beside(int,int)int",
        "word(int,int)int", "barred(int,int)int", "fills()long", "fill(int)int", "stuck(int)int", "line(int,int,int)int",
        "clear()boolean", "judged(int)int", "mend()int", "mended(int)int", "same(int)int", "renamed(int,int)int",
        "mark(int,boolean)boolean", "count(int)int",
    };

    public static void main(String[] args) throws IOException {
        face();
        insides();
        source(Files.readString(Path.of("src/main/java/EndsRound.java")));
        Checks.end();
    }

    private static void face() {
        Set<String> names = new TreeSet<>();
        Set<String> found = new TreeSet<>();
        for (Method method : EndsRound.class.getDeclaredMethods()) {
            if (Modifier.isPublic(method.getModifiers())) {
                StringBuilder sign = new StringBuilder(method.getName()).append('(');
                for (Class<?> type : method.getParameterTypes()) {
                    sign.append(sign.charAt(sign.length() - 1) == '(' ? "" : ",").append(type.getName());
                }
                found.add(sign.append(')').append(method.getReturnType().getName()).toString());
                names.add(method.getName());
            }
        }
        Checks.due("the face is " + found, found.equals(new TreeSet<>(Arrays.asList(FACE))), true);
        for (Method method : EndsRound.class.getDeclaredMethods()) {
            boolean hidden = Modifier.isPrivate(method.getModifiers());
            Checks.due("hidden or of the face: " + method, hidden != names.contains(method.getName()), true);
        }
        for (Field field : EndsRound.class.getDeclaredFields()) {
            Checks.due("hidden: " + field, Modifier.isPrivate(field.getModifiers()), !field.getName().equals("NONE"));
        }
        Checks.due("constructors", EndsRound.class.getDeclaredConstructors().length, 1);
        Checks.due("final", Modifier.isFinal(EndsRound.class.getModifiers()), true);
        Constructor<?> constructor = EndsRound.class.getDeclaredConstructors()[0];
        Checks.due("public constructor", Modifier.isPublic(constructor.getModifiers()), true);
    }

    private static void insides() {
        List<Class<?>> classes = new ArrayList<>(Arrays.asList(EndsRound.class.getDeclaredClasses()));
        for (Class<?> inside : classes) {
            Checks.due("static: " + inside, Modifier.isStatic(inside.getModifiers()), true);
            Checks.due("not public: " + inside, Modifier.isPublic(inside.getModifiers()), false);
        }
        classes.add(EndsRound.class);
        Checks.due("at most twelve classes, and the public one", classes.size() <= 13, true);
        for (Class<?> one : classes) {
            int fields = 0;
            for (Field field : one.getDeclaredFields()) {
                boolean fixed = Modifier.isStatic(field.getModifiers());
                fields += fixed ? 0 : 1;
                Checks.due("static is final: " + field, !fixed || Modifier.isFinal(field.getModifiers()), true);
            }
            Checks.due("at most twenty fields: " + one, fields <= 20, true);
            for (Method method : one.getDeclaredMethods()) {
                Checks.due("at most seven parameters: " + method, method.getParameterCount() <= 7, true);
            }
        }
    }

    private static void source(String text) {
        String code = text.replaceAll("(?s)/\\*.*?\\*/", "").replaceAll("//[^\n]*", "");
        String[] never = {"->", "::", "catch", "finally", "synchronized", "assert ", "import java.util.[^N]", "getMessage", "System\\.",
            "\" *\\+", "\\+ *\"", "double", "float", "static *\\{", "Object", "hashCode", "toString", "equals", "Random", "Thread", "/ *0",
            "protected", "@"};
        for (String word : never) {
            Checks.due("found in the class: " + word, Pattern.compile(word).matcher(code).find(), false);
        }
        for (char sign : text.toCharArray()) {
            Checks.due("a sign beyond 127", sign > 127, false);
        }
        // Rows and objects are made with the object alone.
        Matcher made = Pattern.compile("\n( *)(.*new [A-Za-z]+[(\\[].*)").matcher(code);
        while (made.find()) {
            String line = made.group(2);
            boolean fine = line.startsWith("private final") || line.startsWith("throw new NoSuchElementException(\"")
                || code.lastIndexOf("public EndsRound()", made.start()) >= 0
                    && code.indexOf("public int feed", made.start()) >= 0
                || line.equals("lengths = new int[most < 1 ? 1 : most];") || line.startsWith("tokens = new Tokens");
            Checks.due("made outside a constructor: " + line, fine, true);
        }
        Matcher method = Pattern.compile("(?s)\n( +)((?:public|private|static|final| )*[\\w\\[\\]]+ \\w+\\([^;{]*\\{\n.*?\n)\\1\\}").matcher(code);
        while (method.find()) {
            boolean plain = !method.group(2).contains(" class ");
            int lines = method.group(2).split("\n").length + 1;
            Checks.due("at most sixty lines: " + method.group(2).split("\n")[0], !plain || lines <= 60, true);
        }
    }
}
