import java.io.IOException;
import java.lang.reflect.Constructor;
import java.lang.reflect.Field;
import java.lang.reflect.Method;
import java.lang.reflect.Modifier;
import java.nio.file.Files;
import java.nio.file.Path;
import java.util.ArrayList;
import java.util.List;
import java.util.Set;
import java.util.TreeSet;
import java.util.regex.Matcher;
import java.util.regex.Pattern;

/** The face of the document, and those rules of LANGUAGE.md that can be seen from outside. */
public final class LanguageTest {
    private static final Check CHECK = new Check();
    private static final Set<String> FACE = new TreeSet<>(List.of("sheet int int int", "set int int int",
        "copy int int int int int", "drop int", "feed long int", "read", "fault", "layer int int", "fact int int",
        "facts int int int", "point", "wake int int", "sleep int", "row int int int", "call int int int", "ran int",
        "together int int", "same int int int int int", "kind int", "as int int", "ask int int", "trace int",
        "count int", "status"));
    private static final Set<String> BANNED = new TreeSet<>(List.of("throw", "throws", "try", "catch", "finally",
        "synchronized", "assert", "import", "package", "native", "volatile", "double", "float", "System.out"));

    public static void main(String[] args) throws IOException {
        face();
        List<Class<?>> classes = new ArrayList<>(List.of(WakingLayers.class.getDeclaredClasses()));
        classes.add(WakingLayers.class);
        due("at most twelve classes", classes.size() <= 12, "" + classes.size());
        for (Class<?> one : classes) {
            members(one);
        }
        source(Files.readString(Path.of("src/main/java/WakingLayers.java")));
        CHECK.finish();
    }

    private static void due(String rule, boolean kept, String where) {
        CHECK.due(rule + " (" + where + "): kept", kept ? 1 : 0, 1);
    }

    private static void face() {
        Class<?> face = WakingLayers.class;
        due("public and final", Modifier.isPublic(face.getModifiers()) && Modifier.isFinal(face.getModifiers()), "class");
        Set<String> shown = new TreeSet<>();
        for (Method method : face.getDeclaredMethods()) {
            if (!Modifier.isPrivate(method.getModifiers())) {
                due("public int, not static", method.getReturnType() == int.class
                    && (method.getModifiers() & (Modifier.PUBLIC | Modifier.STATIC)) == Modifier.PUBLIC, method.getName());
                StringBuilder told = new StringBuilder(method.getName());
                for (Class<?> parameter : method.getParameterTypes()) {
                    told.append(' ').append(parameter.getName());
                }
                shown.add(told.toString());
            }
        }
        due("the document's methods", shown.equals(FACE), shown.toString());
        Constructor<?>[] made = face.getDeclaredConstructors();
        due("one public constructor", made.length == 1 && made[0].getParameterCount() == 0
            && Modifier.isPublic(made[0].getModifiers()), "constructor");
        Set<String> constants = new TreeSet<>();
        for (Field field : face.getDeclaredFields()) {
            if (!Modifier.isPrivate(field.getModifiers())) {
                constants.add(field.getName());
            }
        }
        due("the document's constants", constants.equals(Set.of("NONE", "BAD", "STATE", "FULL")), constants.toString());
    }

    private static void members(Class<?> one) {
        Set<String> names = new TreeSet<>();
        FACE.forEach(told -> names.add(told.split(" ")[0]));
        int fields = 0;
        for (Field field : one.getDeclaredFields()) {
            boolean constant = Modifier.isStatic(field.getModifiers());
            fields += constant ? 0 : 1;
            due("static fields are final", !constant || Modifier.isFinal(field.getModifiers()), field.toString());
        }
        due("some twenty fields", fields <= 20, one.getName());
        for (Method method : one.getDeclaredMethods()) {
            due("seven parameters", method.getParameterCount() <= 7, method.toString());
            boolean open = one == WakingLayers.class && Modifier.isPublic(method.getModifiers());
            due("no other method bears a public one's name", open || !names.contains(method.getName()), method.toString());
        }
        due("static inside", one == WakingLayers.class || Modifier.isStatic(one.getModifiers()), one.getName());
    }

    private static void source(String text) {
        String code = text.replaceAll("(?s)/\\*.*?\\*/", "").replaceAll("//.*", "").replaceAll("\"[^\"]*\"", "\"\"");
        for (String word : BANNED) {
            Matcher matcher = Pattern.compile("(?<![A-Za-z.])" + Pattern.quote(word) + "(?![A-Za-z])").matcher(code);
            due("no " + word, !matcher.find(), "source");
        }
        for (String sign : List.of("->", "::", "static {", "@", "Exact(", "\" +", "+ \"")) {
            due("no " + sign, !code.contains(sign), "source");
        }
        due("signs of 1 to 127", text.chars().allMatch(c -> c > 0 && c < 128), "source");
        shortMethods(text.split("\n"));
    }

    private static void shortMethods(String[] lines) {
        for (int n = 0; n < lines.length; n++) {
            if (lines[n].matches(" {4}( {4})?[A-Za-z].*\\) \\{")) {
                String end = lines[n].replaceAll("[^ ].*", "}");
                int length = 1;
                while (n + length < lines.length && !lines[n + length].equals(end)) {
                    length++;
                }
                due("some sixty lines", length < 60, "line " + (n + 1));
            }
        }
    }
}
