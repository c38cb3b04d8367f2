import java.io.IOException;
import java.lang.reflect.Constructor;
import java.lang.reflect.Field;
import java.lang.reflect.Method;
import java.lang.reflect.Modifier;
import java.nio.file.Files;
import java.nio.file.Path;
import java.util.ArrayList;
import java.util.HashSet;
import java.util.List;
import java.util.Set;
import java.util.TreeSet;
import java.util.regex.Matcher;
import java.util.regex.Pattern;

/** The face as ../shared/DOC.md writes it; LanguageTest looks after the rules of ../shared/LANGUAGE.md. */
public final class FaceTest {
    private FaceTest() {
    }

    public static void main(String[] args) throws IOException {
        face(Files.readString(Path.of("../shared/DOC.md")));
        Check.end("FaceTest");
    }

    private static void face(String document) {
        String part = document.substring(document.indexOf("public final class TownForest"));
        part = part.substring(0, part.indexOf("```"));
        Set<String> due = new TreeSet<>();
        Matcher m = Pattern.compile("public int (\\w+)\\(([^)]*)\\)([^;]*);").matcher(part);
        while (m.find()) {
            int params = m.group(2).isEmpty() ? 0 : m.group(2).split(",").length;
            due.add(m.group(1) + " " + params + m.group(3).replaceAll("throws|[ ,]+", " ").replaceAll(" +", " "));
        }
        Set<String> got = new TreeSet<>();
        Set<String> publicNames = new HashSet<>();
        List<Method> others = new ArrayList<>();
        for (Method method : TownForest.class.getDeclaredMethods()) {
            if (Modifier.isPublic(method.getModifiers())) {
                got.add(shape(method));
                publicNames.add(method.getName());
            } else if (!method.isSynthetic()) {
                others.add(method);
            }
        }
        Check.due("44 promises less the constructor", due.size(), 43);
        Check.due("face " + due + " is " + got, due.equals(got) ? 1 : 0, 1);
        Check.due("public final", TownForest.class.getModifiers(), Modifier.PUBLIC | Modifier.FINAL);
        for (Method method : others) {
            Check.due(method + " is private", Modifier.isPrivate(method.getModifiers()) ? 1 : 0, 1);
            Check.due(method + " has a name of its own", publicNames.contains(method.getName()) ? 1 : 0, 0);
        }
        Constructor<?>[] made = TownForest.class.getDeclaredConstructors();
        Check.due("one constructor", made.length, 1);
        Check.due("without arguments, public", made[0].getParameterCount() + made[0].getModifiers(), Modifier.PUBLIC);
        fields();
    }

    private static String shape(Method method) {
        StringBuilder shape = new StringBuilder(method.getName()).append(' ').append(method.getParameterCount());
        for (Class<?> e : method.getExceptionTypes()) {
            shape.append(' ').append(e.getSimpleName());
        }
        boolean ints = method.getReturnType() == int.class;
        for (Class<?> parameter : method.getParameterTypes()) {
            ints &= parameter == int.class;
        }
        return shape.append(ints ? "" : " not ints").toString();
    }

    private static void fields() {
        int constants = 0;
        for (Field field : TownForest.class.getDeclaredFields()) {
            if (field.getName().equals("NONE")) {
                constants++;
                Check.due("NONE", TownForest.NONE, -1);
                Check.due("NONE is an int", field.getType() == int.class ? 1 : 0, 1);
                Check.due("NONE is public static final", field.getModifiers(),
                        Modifier.PUBLIC | Modifier.STATIC | Modifier.FINAL);
            } else {
                Check.due(field + " is private", Modifier.isPrivate(field.getModifiers()) ? 1 : 0, 1);
            }
        }
        Check.due("the constants of the face", constants, 1);
    }
}
