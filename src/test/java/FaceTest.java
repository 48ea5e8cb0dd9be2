import java.io.IOException;
import java.lang.reflect.Constructor;
import java.lang.reflect.Field;
import java.lang.reflect.Member;
import java.lang.reflect.Method;
import java.lang.reflect.Modifier;
import java.nio.file.Files;
import java.nio.file.Path;
import java.util.ArrayList;
import java.util.HashSet;
import java.util.List;
import java.util.Set;
import java.util.TreeSet;
import java.util.regex.Matcher;
import java.util.regex.Pattern;

/** The public face, the constants, and those rules of LANGUAGE.md that can be told from outside. */
final class FaceTest {
    private static final Check CHECK = new Check("FaceTest");
    private static final Path SOURCE = Path.of("src/main/java/QuireSigns.java");
    private static final List<String> FACE = List.of(
            "int clearText()", "int count(int)", "int find()", "int formula(int)",
            "int insert(int,int,int)", "int keep()", "int lapse(int,int)", "int leaf(int,int)",
            "int leaveOut(char,boolean)", "int lose(int,boolean)", "int piled(int,int)",
            "int quire(int,int)", "int readFormula()", "int readPile()", "int remove(int)",
            "int restore()", "int setSigning(int)", "int sheets(int)", "int signNext(int)",
            "int type(char)", "int undo()");

    public static void main(String[] args) throws IOException {
        constants();
        face();
        noMoreMembers();
        noNameTwice();
        sizes();
        words();
        CHECK.end();
    }

    private static void constants() {
        CHECK.due("UNKNOWN", QuireSigns.UNKNOWN, -1);
        CHECK.due("BAD_VALUE", QuireSigns.BAD_VALUE, -2);
        CHECK.due("FULL", QuireSigns.FULL, -3);
        CHECK.due("NOT_POSSIBLE", QuireSigns.NOT_POSSIBLE, -4);
        CHECK.due("NONE", QuireSigns.NONE, -5);
    }

    private static void face() {
        Set<String> methods = new TreeSet<>();
        for (Method method : QuireSigns.class.getDeclaredMethods()) {
            if (Modifier.isPublic(method.getModifiers())) {
                List<String> types = new ArrayList<>();
                for (Class<?> type : method.getParameterTypes()) {
                    types.add(type.getName());
                }
                methods.add(method.getReturnType() + " " + method.getName() + "(" + String.join(",", types) + ")");
            }
        }
        CHECK.due("the public methods are those of the document: " + methods,
                methods.equals(new TreeSet<>(FACE)) ? 1 : 0, 1);
        Constructor<?>[] constructors = QuireSigns.class.getDeclaredConstructors();
        CHECK.due("constructors", constructors.length, 1);
        CHECK.due("its parameters", constructors[0].getParameterCount(), 0);
        CHECK.due("it is public", Modifier.isPublic(constructors[0].getModifiers()) ? 1 : 0, 1);
        int modifiers = QuireSigns.class.getModifiers();
        CHECK.due("public and final", modifiers & (Modifier.PUBLIC | Modifier.FINAL), Modifier.PUBLIC | Modifier.FINAL);
    }

    private static void noMoreMembers() {
        List<Member> members = new ArrayList<>(List.of(QuireSigns.class.getDeclaredMethods()));
        members.addAll(List.of(QuireSigns.class.getDeclaredFields()));
        for (Member member : members) {
            int modifiers = member.getModifiers();
            boolean hidden = Modifier.isPrivate(modifiers) || member.isSynthetic();
            CHECK.due(member + " is private or public", hidden || Modifier.isPublic(modifiers) ? 1 : 0, 1);
        }
        for (Class<?> inside : QuireSigns.class.getDeclaredClasses()) {
            CHECK.due(inside + " is static", Modifier.isStatic(inside.getModifiers()) ? 1 : 0, 1);
            CHECK.due(inside + " is hidden", inside.getModifiers() & (Modifier.PUBLIC | Modifier.PROTECTED), 0);
            for (Field field : inside.getDeclaredFields()) {
                staticOnlyAsConstant(field);
            }
        }
        for (Field field : QuireSigns.class.getDeclaredFields()) {
            staticOnlyAsConstant(field);
        }
    }

    private static void staticOnlyAsConstant(Field field) {
        int modifiers = field.getModifiers();
        boolean right = !Modifier.isStatic(modifiers) || field.isSynthetic() || Modifier.isFinal(modifiers);
        CHECK.due(field + " is no static state", right ? 1 : 0, 1);
    }

    private static void noNameTwice() {
        Set<String> names = new HashSet<>();
        for (String method : FACE) {
            names.add(method.substring(4, method.indexOf('(')));
        }
        List<Method> hidden = new ArrayList<>(List.of(QuireSigns.class.getDeclaredMethods()));
        hidden.removeIf(method -> Modifier.isPublic(method.getModifiers()));
        for (Class<?> inside : QuireSigns.class.getDeclaredClasses()) {
            hidden.addAll(List.of(inside.getDeclaredMethods()));
        }
        for (Method method : hidden) {
            CHECK.due(method + " has a name of its own", names.contains(method.getName()) ? 1 : 0, 0);
        }
    }

    private static void sizes() {
        List<Class<?>> classes = new ArrayList<>(List.of(QuireSigns.class.getDeclaredClasses()));
        classes.add(QuireSigns.class);
        CHECK.due("some twelve classes: " + classes, classes.size() <= 12 ? 1 : 0, 1);
        for (Class<?> one : classes) {
            int fields = 0;
            for (Field field : one.getDeclaredFields()) {
                fields += Modifier.isStatic(field.getModifiers()) ? 0 : 1;
            }
            CHECK.due("some twenty fields of " + one, fields <= 20 ? 1 : 0, 1);
            for (Method method : one.getDeclaredMethods()) {
                CHECK.due("seven parameters of " + method, method.getParameterCount() <= 7 ? 1 : 0, 1);
            }
        }
    }

    private static void words() throws IOException {
        String source = Files.readString(SOURCE);
        String code = source.replaceAll("(?s)/\\*.*?\\*/", "").replaceAll("//[^\n]*", "");
        String forbidden = "\\b(package|import|throw|throws|try|catch|finally|synchronized|assert|instanceof|float|double"
                + "|System|Object|equals|hashCode|toString|\\w+Exact|Exception|Error)\\b|->|::|static\\s*\\{";
        Matcher matcher = Pattern.compile(forbidden).matcher(code);
        CHECK.due("no word that the rules rule out", matcher.find() ? 1 : 0, 0);
        CHECK.due("only signs from 10 to 126", source.chars().filter(c -> c != '\n' && (c < 32 || c > 126)).count(), 0);
        int lines = 0;
        for (String line : source.split("\n")) {
            // A method of a class inside ends at eight blanks, one of the class itself at four.
            boolean ends = line.equals("    }") || line.equals("        }");
            lines = ends || line.isEmpty() ? 0 : lines + 1;
            CHECK.due("a piece of code is short: " + line, lines <= 60 ? 1 : 0, 1);
        }
    }
}
