import java.lang.reflect.Constructor;
import java.lang.reflect.Field;
import java.lang.reflect.Method;
import java.lang.reflect.Modifier;
import java.nio.file.Files;
import java.nio.file.Path;
import java.util.Arrays;
import java.util.List;
import java.util.Set;
import java.util.TreeSet;
import java.util.regex.Pattern;

/** The class has the document's face and no other, and keeps to what a machine can see of LANGUAGE.md. */
public final class FaceTest {
    private static final List<String> METHODS = List.of("begin()", "insert(int,int,int,int,int)", "update(int,int,int,int)",
        "remove(int,int)", "records(int)", "undo(int,int)", "commit(int)", "abort(int)", "index(int,int,int,boolean)",
        "drop(int)", "step(int,int)", "info(int,int)", "entry(int,int,int)", "where(int,int,int)", "ask(int,int)",
        "answer(int)", "asked(int)", "cost(int)", "sees(int,int)", "field(int,int,int)", "writer(int)", "count(int)",
        "audit()");
    private static final List<String> CONSTANTS = List.of("NONE=-1", "UNKNOWN=-101", "OUTSIDE=-102", "LOCKED=-103",
        "ROOM=-104", "DUPLICATE=-105");

    public static void main(String[] args) throws Exception {
        face();
        classesInside();
        if (args.length > 0) {
            source(Files.readString(Path.of(args[0])));
        }
        Due.end();
    }

    private static void holds(String what, boolean so) {
        Due.is(what, so ? 1 : 0, 1);
    }

    private static void face() throws IllegalAccessException {
        Class<?> c = IndexedTable.class;
        holds("public and final", Modifier.isPublic(c.getModifiers()) && Modifier.isFinal(c.getModifiers()));
        Set<String> methods = new TreeSet<>();
        Set<String> names = new TreeSet<>();
        for (Method m : c.getDeclaredMethods()) {
            if (!Modifier.isPrivate(m.getModifiers())) {
                StringBuilder text = new StringBuilder(m.getName()).append('(');
                for (Class<?> p : m.getParameterTypes()) {
                    text.append(text.charAt(text.length() - 1) == '(' ? "" : ",").append(p.getName());
                }
                methods.add(text.append(')').toString());
                names.add(m.getName());
                holds(m + " answers an int and is public", m.getReturnType() == int.class && Modifier.isPublic(m.getModifiers()));
            }
        }
        holds("the methods: " + methods, methods.equals(new TreeSet<>(METHODS)));
        for (Method m : c.getDeclaredMethods()) {
            holds(m + " bears a name of the face", !Modifier.isPrivate(m.getModifiers()) || !names.contains(m.getName()));
        }
        Set<String> constants = new TreeSet<>();
        for (Field f : c.getDeclaredFields()) {
            if (!Modifier.isPrivate(f.getModifiers())) {
                constants.add(f.getName() + "=" + f.getInt(null));
            }
        }
        holds("the constants: " + constants, constants.equals(new TreeSet<>(CONSTANTS)));
        Constructor<?>[] made = c.getDeclaredConstructors();
        holds("one public constructor", made.length == 1 && made[0].getParameterCount() == 0 && Modifier.isPublic(made[0].getModifiers()));
    }

    private static void classesInside() {
        Class<?>[] inside = IndexedTable.class.getDeclaredClasses();
        holds("at most twelve classes", inside.length + 1 <= 12);
        for (Class<?> c : inside) {
            int m = c.getModifiers();
            holds(c + " is static and not seen", Modifier.isStatic(m) && !Modifier.isPublic(m) && !Modifier.isProtected(m));
            fields(c);
            for (Method method : c.getDeclaredMethods()) {
                holds(method + " takes at most seven", method.getParameterCount() <= 7);
                holds(method + " bears a name of the face", !METHODS.toString().contains(" " + method.getName() + "("));
            }
        }
        fields(IndexedTable.class);
    }

    private static void fields(Class<?> c) {
        int own = 0;
        for (Field f : c.getDeclaredFields()) {
            if (Modifier.isStatic(f.getModifiers())) {
                holds(f + " is final", Modifier.isFinal(f.getModifiers()));
            } else {
                own++;
            }
        }
        holds(c + " has at most twenty fields", own <= 20);
    }

    private static void source(String text) {
        String code = text.replaceAll("(?s)/\\*.*?\\*/", "").replaceAll("//[^\n]*", "");
        for (String word : List.of("throw", "throws", "try", "catch", "synchronized", "assert", "package", "Object", "double",
                "float", "native", "volatile", "transient", "Exact")) {
            holds("no " + word, !Pattern.compile("\\b" + word + "\\b|Exact\\(").matcher(code).find());
        }
        holds("no lambda, no method reference", !code.contains("->") && !code.contains("::"));
        holds("one import", Arrays.stream(code.split("\n")).filter(s -> s.startsWith("import")).toList()
            .equals(List.of("import java.util.Arrays;")));
        methods(code.split("\n"));
    }

    private static void methods(String[] lines) {
        int start = 0;
        String end = null;
        for (int k = 0; k < lines.length; k++) {
            if (end == null && lines[k].matches(" {4}( {4})?\\w.*\\) \\{")) {
                start = k;
                end = lines[k].substring(0, lines[k].length() - lines[k].stripLeading().length()) + "}";
            } else if (lines[k].equals(end)) {
                holds("sixty lines at most:" + lines[start], k - start < 60);
                end = null;
            } else if (end != null && lines[k].contains("new ")) {
                // "All memory is the class's own, made once" (section 4): only a constructor makes anything.
                holds("nothing is made:" + lines[start], lines[start].matches(" +(public )?[A-Z]\\w*\\(.*"));
            }
        }
        holds("each method has an end", end == null);
    }
}
