import java.io.IOException;
import java.lang.reflect.Constructor;
import java.lang.reflect.Field;
import java.lang.reflect.Method;
import java.lang.reflect.Modifier;
import java.nio.file.Files;
import java.nio.file.Path;
import java.util.Arrays;
import java.util.List;
import java.util.Set;
import java.util.TreeSet;
import java.util.regex.Matcher;
import java.util.regex.Pattern;

/** The public face of the document, and the rules of LANGUAGE.md that can be seen without a parser. */
public final class FaceTest {
    private static final Check CHECK = new Check();
    private static final Set<String> METHODS = Set.of(
        "setLoom(int,int)", "setEnd(int,int,int)", "setFault(int,int)", "addBar(int,int)", "setBar(int,int,int)",
        "setDirection(int)", "turnTo(int)", "wind(int,int)", "append(int)", "clearText()", "load()", "weave(int)",
        "takeOut(int)", "cutOff()", "undo()", "count(int)", "end(int,int)", "bar(int,int)", "yarn(int)",
        "row(int,int)", "cell(int,int,int)", "floats(int,int)", "repeat()", "differentRows()", "picksLeft()",
        "yarnFor(int,int)");
    private static final Set<String> CONSTANTS = Set.of(
        "INVALID_ARGUMENT", "ILLEGAL_STATE", "CAPACITY_EXCEEDED", "NONE");
    private static final String FORBIDDEN_WORDS = "\\b(throw|throws|try|catch|synchronized|assert|import|package"
        + "|protected|native|volatile|transient|hashCode|toString|equals)\\b|->|::|Exact\\(";

    public static void main(String[] arguments) throws IOException {
        face();
        classesInside();
        source(Files.readString(Path.of("src/main/java/DobbyLoom.java")));
        CHECK.close("FaceTest");
    }

    private static void face() {
        CHECK.begin("face");
        CHECK.due("modifiers", Modifier.PUBLIC | Modifier.FINAL, DobbyLoom.class.getModifiers());
        Constructor<?>[] constructors = DobbyLoom.class.getDeclaredConstructors();
        CHECK.due("constructors", 1, constructors.length);
        CHECK.due("the constructor is public", Modifier.PUBLIC, constructors[0].getModifiers());
        CHECK.due("and takes nothing", 0, constructors[0].getParameterCount());
        Set<String> open = new TreeSet<>();
        Set<String> hidden = new TreeSet<>();
        for (Method method : DobbyLoom.class.getDeclaredMethods()) {
            if (Modifier.isPrivate(method.getModifiers())) {
                hidden.add(method.getName());
                continue;
            }
            List<String> types = Arrays.stream(method.getParameterTypes()).map(Class::getName).toList();
            open.add(method.getName() + "(" + String.join(",", types) + ")");
            CHECK.due(method.getName() + " is public and nothing more", Modifier.PUBLIC, method.getModifiers());
            CHECK.holds(method.getName() + " answers an int", method.getReturnType() == int.class);
        }
        CHECK.holds("methods " + open, open.equals(METHODS));
        for (String name : hidden) {
            CHECK.holds("no public method is named like " + name, METHODS.stream().noneMatch(it -> it.startsWith(name + "(")));
        }
        Set<String> fields = new TreeSet<>();
        for (Field field : DobbyLoom.class.getDeclaredFields()) {
            if (!Modifier.isPrivate(field.getModifiers())) {
                fields.add(field.getName());
                CHECK.due(field.getName(), Modifier.PUBLIC | Modifier.STATIC | Modifier.FINAL, field.getModifiers());
                CHECK.holds(field.getName() + " is an int", field.getType() == int.class);
            }
        }
        CHECK.holds("constants " + fields, fields.equals(CONSTANTS));
    }

    private static void classesInside() {
        CHECK.begin("classes inside");
        CHECK.holds("at most twelve classes", DobbyLoom.class.getDeclaredClasses().length < 12);
        sizes(DobbyLoom.class);
        for (Class<?> inside : DobbyLoom.class.getDeclaredClasses()) {
            sizes(inside);
            int modifiers = inside.getModifiers();
            CHECK.holds(inside.getName() + " is static", Modifier.isStatic(modifiers));
            CHECK.holds(inside.getName() + " is not open", !Modifier.isPublic(modifiers) && !Modifier.isProtected(modifiers));
            for (Field field : inside.getDeclaredFields()) {
                boolean constant = Modifier.isFinal(field.getModifiers());
                CHECK.holds(field.getName() + ": static is final", !Modifier.isStatic(field.getModifiers()) || constant);
            }
        }
    }

    private static void sizes(Class<?> type) {
        for (Method method : type.getDeclaredMethods()) {
            CHECK.holds(method.getName() + " takes at most seven", method.getParameterCount() <= 7);
        }
        long fields = Arrays.stream(type.getDeclaredFields()).filter(it -> !Modifier.isStatic(it.getModifiers())).count();
        CHECK.holds(type.getName() + " has at most twenty fields", fields <= 20);
    }

    private static void source(String source) {
        CHECK.begin("source");
        CHECK.holds("its signs are 1 to 127", source.chars().allMatch(sign -> sign >= 1 && sign <= 127));
        String code = source.replaceAll("(?s)/\\*.*?\\*/", "").replaceAll("//[^\n]*", "");
        Matcher forbidden = Pattern.compile(FORBIDDEN_WORDS).matcher(code);
        while (forbidden.find()) {
            CHECK.holds("without " + forbidden.group(), false);
        }
        CHECK.holds("without a division, but by tests", !Pattern.compile("[^/]/[^/]| % ").matcher(code).find());
    }
}
