import java.io.IOException;
import java.lang.reflect.Constructor;
import java.lang.reflect.Field;
import java.lang.reflect.Method;
import java.lang.reflect.Modifier;
import java.nio.file.Files;
import java.nio.file.Path;
import java.util.Arrays;
import java.util.List;
import java.util.Set;
import java.util.TreeSet;
import java.util.regex.Matcher;
import java.util.regex.Pattern;

/** The face of the document and no more of it, and those rules of LANGUAGE.md that can be read off the file. */
public final class FaceTest {
    private static final Path SOURCE = Path.of("src/main/java/MovedLines.java");
    private static final String[] FACE = {
        "int feed(int,int,int,int,int)", "boolean end(int)", "int edition(int)", "int fault()", "int now(int)",
        "int line(int,int,int) throws java.util.NoSuchElementException", "int letter(int,int,int,int)", "int block(int,int)",
        "int shared(int,int)", "int stays(int,int,int)", "int most()", "int changes()", "int anchors(int)",
        "int would(int,int,int)", "int put(int,int)", "int change(int,int)", "int cut(int,int)",
        "boolean move(int,int,int,int)", "int take()", "int undo()"};
    private static final String[] RULED_OUT = {"->", "::", "finally", "synchronized", "assert", "catch", "Exact", "instanceof",
        "package ", "Integer.valueOf", "Object", "equals(", "hashCode", "toString", "float", "double", "static {"};

    private FaceTest() {
    }

    public static void main(String[] args) throws IOException {
        members();
        nestedClasses();
        source();
        Check.close();
    }

    private static void members() {
        Class<?> face = MovedLines.class;
        Check.due("public and final", face.getModifiers(), Modifier.PUBLIC | Modifier.FINAL);
        Set<String> methods = new TreeSet<>();
        Set<String> names = new TreeSet<>();
        for (Method method : face.getDeclaredMethods()) {
            if (!Modifier.isPrivate(method.getModifiers())) {
                methods.add(method.toGenericString().replace("MovedLines.", "").replace("public ", ""));
                names.add(method.getName());
            }
        }
        Set<String> due = new TreeSet<>(Arrays.asList(FACE));
        Check.due("methods " + methods + ", due " + due, methods.equals(due), true);
        for (Class<?> any : allClasses()) {
            for (Method method : any.getDeclaredMethods()) {
                boolean own = any == face && !Modifier.isPrivate(method.getModifiers());
                Check.due(any.getName() + "." + method.getName() + " bears a name of the face", !own && names.contains(method.getName()), false);
                Check.due(any.getName() + "." + method.getName() + " takes seven or fewer", method.getParameterCount() <= 7, true);
            }
        }
        Constructor<?>[] constructors = face.getDeclaredConstructors();
        Check.due("constructors", constructors.length, 1);
        Check.due("constructor", constructors[0].toString().equals("public MovedLines()"), true);
        for (Field field : face.getDeclaredFields()) {
            boolean none = field.getName().equals("NONE");
            Check.due("field " + field, Modifier.isPrivate(field.getModifiers()), !none);
        }
    }

    private static List<Class<?>> allClasses() {
        List<Class<?>> all = new java.util.ArrayList<>(Arrays.asList(MovedLines.class.getDeclaredClasses()));
        all.add(MovedLines.class);
        return all;
    }

    private static void nestedClasses() {
        Check.due("at most twelve classes", allClasses().size() <= 12, true);
        for (Class<?> any : allClasses()) {
            int fields = 0;
            for (Field field : any.getDeclaredFields()) {
                boolean fixed = Modifier.isStatic(field.getModifiers());
                Check.due("static and not final: " + field, fixed && !Modifier.isFinal(field.getModifiers()), false);
                fields += fixed ? 0 : 1;
            }
            Check.due("fields of " + any, fields <= 20, true);
            if (any != MovedLines.class) {
                Check.due("static: " + any, Modifier.isStatic(any.getModifiers()), true);
                Check.due("not public: " + any, Modifier.isPublic(any.getModifiers()) || Modifier.isProtected(any.getModifiers()), false);
            }
        }
    }

    private static void source() throws IOException {
        String source = Files.readString(SOURCE);
        String code = source.replaceAll("(?s)/\\*.*?\\*/", "").replaceAll("//[^\n]*", "");
        for (String word : RULED_OUT) {
            Check.due("the file has " + word, code.contains(word), false);
        }
        Check.due("signs 10 and 32 to 126 alone", source.chars().allMatch(c -> c == 10 || c >= 32 && c < 127), true);
        Set<String> imports = found("import ([^;]*);", code);
        Check.due("imports " + imports, imports.equals(Set.of("java.util.NoSuchElementException")), true);
        Set<String> thrown = found("throw (new \\w+)\\(\"", code);
        Check.due("throws " + thrown, thrown.equals(Set.of("new NoSuchElementException")), true);
        Set<String> library = found("\\b((?:System|Math|Integer|Long|Arrays)\\.\\w+)", code);
        Check.due("library " + library, Set.of("System.arraycopy", "Math.min", "Math.max").containsAll(library), true);
        longMethods(source);
    }

    private static Set<String> found(String pattern, String code) {
        Set<String> found = new TreeSet<>();
        Matcher matcher = Pattern.compile(pattern).matcher(code);
        while (matcher.find()) {
            found.add(matcher.group(1));
        }
        return found;
    }

    /** Methods end at a brace that stands as far in as they began. */
    private static void longMethods(String source) {
        String[] lines = source.split("\n");
        Pattern head = Pattern.compile("( {4}| {8})(?=\\w)[\\w\\[\\] ]+\\([^;]*\\{");
        for (int from = 0; from < lines.length; from++) {
            Matcher matcher = head.matcher(lines[from]);
            if (matcher.matches() && !lines[from].contains(" class ")) {
                String end = matcher.group(1) + "}";
                int to = from;
                while (to < lines.length && !lines[to].equals(end)) {
                    to++;
                }
                Check.due("lines of" + lines[from], to - from < 60, true);
            }
        }
    }
}
