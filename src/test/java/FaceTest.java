import java.io.IOException;
import java.lang.reflect.Constructor;
import java.lang.reflect.Field;
import java.lang.reflect.Method;
import java.lang.reflect.Modifier;
import java.nio.charset.StandardCharsets;
import java.nio.file.Files;
import java.nio.file.Path;
import java.util.Arrays;
import java.util.Set;
import java.util.TreeSet;
import java.util.regex.Matcher;
import java.util.regex.Pattern;

/** The public face, and those rules of LANGUAGE.md that can be seen from the classes and the source's text. */
public final class FaceTest {
    private static final String[] FACE = {"int put(int, int, int)", "int of(int, int)", "int house(int, int, int)",
        "int born(int, int, int, int)", "int undo()", "int at(int, int)", "int terms(int, int)",
        "int feed(int, int, int, int, int)", "int end(int)", "int row()", "int burnt()", "int law()", "int orders()",
        "int fault()", "int stopped()", "int force(int)", "int change(int, int, int, int, int)", "int changes(int, int)",
        "int steps(int, int)", "int way(int, int, int)", "int between(int, int)", "int judge(int)", "int poor(int)",
        "int first(int, int)", "int lines(int, int)", "long odds(int, int, int)", "int likely(int, int)",
        "int tastings(int, int)", "int copies(int)", "int stood(int)", "int line(int, int, int)", "int drawn(int)",
        "int image(int)", "int back(int)", "int count(int)", "int status()"};

    public static void main(String[] args) throws IOException {
        methods();
        members();
        for (Class<?> inside : DishLines.class.getDeclaredClasses()) {
            int modifiers = inside.getModifiers();
            Check.holds("static: " + inside.getName(), Modifier.isStatic(modifiers));
            Check.holds("hidden: " + inside.getName(), !Modifier.isPublic(modifiers) && !Modifier.isProtected(modifiers));
            fields(inside);
            for (Method method : inside.getDeclaredMethods()) {
                Check.holds("parameters of " + method, method.getParameterCount() <= 7);
            }
        }
        fields(DishLines.class);
        Check.holds("some twelve classes", DishLines.class.getDeclaredClasses().length + 1 <= 12);
        source(Files.readString(Path.of(System.getProperty("source")), StandardCharsets.US_ASCII));
        Check.end();
    }

    private static void methods() {
        Set<String> due = new TreeSet<>(Arrays.asList(FACE));
        Set<String> found = new TreeSet<>();
        Set<String> names = new TreeSet<>();
        Set<String> hidden = new TreeSet<>();
        for (Method method : DishLines.class.getDeclaredMethods()) {
            if (Modifier.isPrivate(method.getModifiers())) {
                hidden.add(method.getName());
                continue;
            }
            Check.holds("public: " + method, Modifier.isPublic(method.getModifiers()));
            names.add(method.getName());
            StringBuilder told = new StringBuilder(method.getReturnType() + " " + method.getName() + "(");
            for (Class<?> type : method.getParameterTypes()) {
                told.append(told.charAt(told.length() - 1) == '(' ? "" : ", ").append(type);
            }
            found.add(told.append(")").toString());
        }
        Check.holds("the face is " + found, found.equals(due));
        hidden.retainAll(names);
        Check.holds("private ones with a public one's name: " + hidden, hidden.isEmpty());
    }

    private static void members() {
        Check.holds("final", Modifier.isFinal(DishLines.class.getModifiers()));
        Check.holds("NONE", DishLines.NONE == -1);
        Constructor<?>[] all = DishLines.class.getDeclaredConstructors();
        Check.holds("one constructor", all.length == 1 && all[0].getParameterCount() == 0);
        for (Field field : DishLines.class.getDeclaredFields()) {
            Check.holds("private: " + field, Modifier.isPrivate(field.getModifiers()) != field.getName().equals("NONE"));
        }
    }

    private static void fields(Class<?> of) {
        int own = 0;
        for (Field field : of.getDeclaredFields()) {
            own += Modifier.isStatic(field.getModifiers()) ? 0 : 1;
            Check.holds("static ones are final: " + field,
                !Modifier.isStatic(field.getModifiers()) || Modifier.isFinal(field.getModifiers()));
        }
        Check.holds("some twenty fields: " + of + " has " + own, own <= 20);
    }

    private static void source(String text) {
        String bare = text.replaceAll("(?s)/\\*.*?\\*/", "").replaceAll("//[^\n]*", "")
            .replaceAll("\"[^\"\n]*\"", "\"\"").replaceAll("'[^'\n]*'", "' '");
        String[] words = {"throw", "throws", "try", "catch", "synchronized", "assert", "Exact", "var", "yield", "goto",
            "double", "float", "System\\.(?!arraycopy)", "Integer\\.(?!bitCount)", "Math\\.(?!min|max)",
            "Arrays\\.(?!fill)", "new String", "\\w*Exception", "Thread", "Random"};
        for (String word : words) {
            Matcher found = Pattern.compile("\\b" + word + "(?![a-z])").matcher(bare);
            Check.holds("there is " + word, !found.find());
        }
        Check.holds("no lambda", !bare.contains("->") && !bare.contains("::"));
        Check.holds("no text joined by +", !bare.contains("\"\" +") && !bare.contains("+ \"\""));
        Matcher imports = Pattern.compile("import ([\\w.]+);").matcher(bare);
        while (imports.find()) {
            Check.holds("import " + imports.group(1), imports.group(1).equals("java.util.Arrays"));
        }
        lengths(bare);
    }

    private static void lengths(String bare) {
        int start = 0;
        String head = "";
        int number = 0;
        for (String line : bare.split("\n", -1)) {
            number++;
            if (line.matches(" {4,8}[\\w\\[\\]<> ]+\\([^;]*\\) \\{")) {
                start = number;
                head = line.trim();
            }
            if (line.matches(" {4,8}\\}") && start > 0) {
                Check.holds(head + " has " + (number - start + 1) + " lines", number - start < 60);
                start = 0;
            }
        }
    }
}
