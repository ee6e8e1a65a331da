import java.io.IOException;
import java.lang.reflect.Constructor;
import java.lang.reflect.Field;
import java.lang.reflect.Method;
import java.lang.reflect.Modifier;
import java.nio.file.Files;
import java.nio.file.Path;
import java.util.ArrayList;
import java.util.List;
import java.util.Map;
import java.util.Set;
import java.util.TreeMap;
import java.util.TreeSet;
import java.util.regex.Matcher;
import java.util.regex.Pattern;

/** The document's face, and those rules of ../shared/LANGUAGE.md that a short look can check. Started in the project's folder. */
public final class LanguageTest {
    private static final Path PROGRAM = Path.of("src", "main", "java", "PartingRoads.java");
    private static final Path DOCUMENT = Path.of("..", "shared", "DOC.md");
    private static final String[] FORBIDDEN = {"throw", "throws", "try", "catch", "synchronized", "assert", "import", "package", "protected",
        "float", "double", "->", "::", "Exact\\(", "MAX_VALUE", "MIN_VALUE", "\"", "System\\.(?!arraycopy)"};

    /** A method or constructor as it is laid out in the program: its head, and its body up to the bracket under the head's beginning. */
    private static final Pattern METHOD = Pattern.compile("(?m)^( +)((?:\\w+(?:\\[\\])? )*?)(\\w+)\\([^()]*\\) \\{\\n((?:.*\\n)*?)\\1\\}$");
    private static final Pattern CALL = Pattern.compile("\\b(\\w+)\\(");
    private static final int MOST_LINES = 60;
    private static final int MOST_PARAMETERS = 7;
    private static final int MOST_CLASSES = 12;
    private static final int MOST_FIELDS = 20;
    private static final int MOST_OPEN_CALLS = 8;

    private LanguageTest() {}

    public static void main(String[] args) throws IOException {
        theFaceIsTheDocuments();
        nothingElseCanBeSeen();
        innerClassesAreStatic();
        staticFieldsAreFinal();
        noForbiddenWords();
        sizesAreKept();
        callsMakeNothingAndEnd();
        Due.end();
    }

    private static void theFaceIsTheDocuments() throws IOException {
        Set<String> due = new TreeSet<>();
        Matcher heads = Pattern.compile("    public (int|long) (\\w+)\\((.*)\\);").matcher(Files.readString(DOCUMENT));
        while (heads.find()) {
            due.add(heads.group(1) + " " + heads.group(2) + "(" + heads.group(3).replaceAll(" \\w+(,|$)", "$1") + ")");
        }
        Due.is("the document's methods", due.size(), 21);
        Due.is("the program's methods are the document's", publicMethods().equals(due) ? 1 : 0, 1);
        Constructor<?>[] constructors = PartingRoads.class.getDeclaredConstructors();
        Due.is("constructors", constructors.length, 1);
        Due.is("the constructor is public", constructors[0].getModifiers(), Modifier.PUBLIC);
        Due.is("the class is public and final", PartingRoads.class.getModifiers(), Modifier.PUBLIC | Modifier.FINAL);
    }

    private static Set<String> publicMethods() {
        Set<String> heads = new TreeSet<>();
        for (Method method : PartingRoads.class.getDeclaredMethods()) {
            if (Modifier.isPublic(method.getModifiers())) {
                List<String> types = new ArrayList<>();
                for (Class<?> type : method.getParameterTypes()) {
                    types.add(type.getName());
                }
                heads.add(method.getReturnType().getName() + " " + method.getName() + "(" + String.join(", ", types) + ")");
            }
        }
        return heads;
    }

    private static void nothingElseCanBeSeen() {
        Set<String> constants = Set.of("NO_SUCH", "BAD_VALUE", "BAD_TEXT", "TOO_MANY", "NOT_POSSIBLE", "NONE");
        for (Field field : PartingRoads.class.getDeclaredFields()) {
            Due.is("the field " + field.getName() + " is seen", Modifier.isPrivate(field.getModifiers()) ? 0 : 1, constants.contains(field.getName()) ? 1 : 0);
        }
        Set<String> names = new TreeSet<>();
        for (Method method : PartingRoads.class.getDeclaredMethods()) {
            boolean isPublic = Modifier.isPublic(method.getModifiers());
            Due.is("the method " + method.getName() + " is public or private", isPublic || Modifier.isPrivate(method.getModifiers()) ? 1 : 0, 1);
            Due.is("the method " + method.getName() + " has a name of its own", names.add(method.getName()) ? 1 : 0, 1);
        }
        for (Class<?> inner : PartingRoads.class.getDeclaredClasses()) {
            for (Method method : inner.getDeclaredMethods()) {
                Due.is("the method " + method.getName() + " of " + inner.getSimpleName() + " bears a name of the face",
                        publicMethods().stream().anyMatch(head -> head.contains(" " + method.getName() + "(")) ? 1 : 0, 0);
            }
        }
    }

    private static void innerClassesAreStatic() {
        for (Class<?> inner : PartingRoads.class.getDeclaredClasses()) {
            Due.is(inner.getSimpleName() + " is static", Modifier.isStatic(inner.getModifiers()) ? 1 : 0, 1);
            Due.is(inner.getSimpleName() + " is public", Modifier.isPublic(inner.getModifiers()) ? 1 : 0, 0);
        }
    }

    private static void staticFieldsAreFinal() {
        List<Class<?>> classes = new ArrayList<>(List.of(PartingRoads.class.getDeclaredClasses()));
        classes.add(PartingRoads.class);
        for (Class<?> holder : classes) {
            for (Field field : holder.getDeclaredFields()) {
                boolean fits = !Modifier.isStatic(field.getModifiers()) || Modifier.isFinal(field.getModifiers()) && field.getType() == int.class;
                Due.is("the static field " + field.getName() + " is a constant", fits ? 1 : 0, 1);
            }
        }
    }

    private static String code() throws IOException {
        return Files.readString(PROGRAM).replaceAll("(?s)/\\*.*?\\*/", "").replaceAll("//.*", "");
    }

    private static void noForbiddenWords() throws IOException {
        String code = code();
        for (String word : FORBIDDEN) {
            String whole = Character.isLetter(word.charAt(0)) && word.matches("[a-z]+") ? "\\b" + word + "\\b" : word;
            Due.is("the program says " + word, Pattern.compile(whole).matcher(code).find() ? 1 : 0, 0);
        }
    }

    /** Rule 11. */
    private static void sizesAreKept() {
        List<Class<?>> classes = new ArrayList<>(List.of(PartingRoads.class.getDeclaredClasses()));
        classes.add(PartingRoads.class);
        Due.is("few classes", classes.size() <= MOST_CLASSES ? 1 : 0, 1);
        for (Class<?> holder : classes) {
            long fields = List.of(holder.getDeclaredFields()).stream().filter(field -> !Modifier.isStatic(field.getModifiers())).count();
            Due.is("few fields in " + holder.getSimpleName(), fields <= MOST_FIELDS ? 1 : 0, 1);
            for (Method method : holder.getDeclaredMethods()) {
                Due.is("few parameters of " + method.getName(), method.getParameterCount() <= MOST_PARAMETERS ? 1 : 0, 1);
            }
        }
    }

    /** Rule 11's lines and open calls, rule 12's objects: a body is known by the name of its method, the constructors' bodies by their classes'. */
    private static void callsMakeNothingAndEnd() throws IOException {
        Map<String, String> bodies = new TreeMap<>();
        int constructors = 0;
        Matcher methods = METHOD.matcher(code());
        while (methods.find()) {
            boolean constructor = Character.isUpperCase(methods.group(3).charAt(0));
            String body = methods.group(4);
            Due.is("few lines in " + methods.group(3), body.lines().count() <= MOST_LINES ? 1 : 0, 1);
            Due.is(methods.group(3) + " makes no object", constructor || !body.contains("new ") ? 1 : 0, 1);
            bodies.merge(methods.group(3), body, String::concat);
            constructors += constructor ? 1 : 0;
        }
        Due.is("all methods were found", bodies.keySet().containsAll(namesOfMethods()) ? 1 : 0, 1);
        Due.is("constructors", constructors, 3);
        for (String method : bodies.keySet()) {
            int open = openCalls(method, bodies, 1);
            Due.is(method + " opens few calls at once", open <= MOST_OPEN_CALLS ? 1 : 0, 1);
        }
    }

    private static Set<String> namesOfMethods() {
        Set<String> names = new TreeSet<>();
        for (Class<?> inner : PartingRoads.class.getDeclaredClasses()) {
            for (Method method : inner.getDeclaredMethods()) {
                names.add(method.getName());
            }
        }
        for (Method method : PartingRoads.class.getDeclaredMethods()) {
            names.add(method.getName());
        }
        return names;
    }

    /** How many calls stand open at once at most; one more than may be, where methods call one another in a ring. */
    private static int openCalls(String method, Map<String, String> bodies, int open) {
        int most = open;
        Matcher calls = CALL.matcher(bodies.get(method));
        while (calls.find() && most <= MOST_OPEN_CALLS) {
            if (bodies.containsKey(calls.group(1))) {
                most = Math.max(most, openCalls(calls.group(1), bodies, open + 1));
            }
        }
        return most;
    }
}
