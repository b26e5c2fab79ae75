import java.io.IOException;
import java.lang.reflect.Constructor;
import java.lang.reflect.Field;
import java.lang.reflect.Method;
import java.lang.reflect.Modifier;
import java.nio.file.Files;
import java.nio.file.Path;
import java.util.Arrays;
import java.util.HashMap;
import java.util.Map;
import java.util.Set;
import java.util.TreeSet;
import java.util.regex.Matcher;
import java.util.regex.Pattern;

/** The public face of the document, and those rules of LANGUAGE.md that can be looked up. */
public final class FaceTest {
    private static final String[] METHODS = {
        "setNodes 1", "addEdge 4", "addInFace 3", "removeEdge 1", "swap 3", "mirror 0", "rotation 2", "edge 2",
        "count 1", "appendCharacter 1", "clearText 0", "load 0", "face 2", "walk 2", "faceOf 1", "commonFace 2",
        "isPlanar 0", "canAdd 2", "obstruction 0", "branching 0", "guiltyEdges 0", "insertionCost 2", "crossed 3",
        "setOuter 1", "depth 1", "position 3", "crossings 1", "extent 1", "undo 0"
    };
    private static final String[] FORBIDDEN = {
        "\\btry\\b", "\\bcatch\\b", "\\bfinally\\b", "\\bsynchronized\\b", "\\bassert\\b", "->", "::", "\\bFloat\\.",
        "\\bDouble\\.", "\\bMath\\.(?!min|max)", "\\bInteger\\.(?!bitCount)", "\\bimport (?!java\\.util\\.Arrays;)",
        "\\bnew \\w+\\[[^\\]]*\\]\\[", "\\bthrow\\b", "\\bObject\\b", "^package\\b"
    };

    private static int wrong = 0;

    private static void check(boolean good, String what) {
        if (!good) {
            wrong++;
            System.out.println("not as due: " + what);
        }
    }

    private static void checkMethods() {
        Map<String, Integer> due = new HashMap<>();
        for (String method : METHODS) due.put(method.split(" ")[0], Integer.parseInt(method.split(" ")[1]));
        Set<String> found = new TreeSet<>();
        for (Method method : PlainDrawing.class.getDeclaredMethods()) {
            if (method.isSynthetic()) continue;
            String name = method.getName();
            if (Modifier.isPrivate(method.getModifiers())) {
                check(!due.containsKey(name), "a private method " + name);
                continue;
            }
            found.add(name);
            check(due.containsKey(name), "a method " + name);
            check(method.getModifiers() == Modifier.PUBLIC, "the modifiers of " + name);
            check(method.getReturnType() == int.class, "the type of " + name);
            check(due.getOrDefault(name, -1) == method.getParameterCount(), "the parameters of " + name);
            for (Class<?> type : method.getParameterTypes()) check(type == int.class, "a parameter of " + name);
        }
        check(found.equals(new TreeSet<>(due.keySet())), "the methods are " + found);
        for (Class<?> inner : PlainDrawing.class.getDeclaredClasses()) {
            check(Modifier.isStatic(inner.getModifiers()), inner + " is not static");
            check(!Modifier.isPublic(inner.getModifiers()), inner + " is public");
            for (Method method : inner.getDeclaredMethods()) {
                check(!due.containsKey(method.getName()), "a method " + method);
                check(method.getParameterCount() <= 7, "the parameters of " + method);
            }
        }
    }

    private static void checkFields() {
        Set<String> found = new TreeSet<>();
        int instanceFields = 0;
        for (Field field : PlainDrawing.class.getDeclaredFields()) {
            if (!Modifier.isPrivate(field.getModifiers())) found.add(field.getName());
            if (Modifier.isStatic(field.getModifiers())) {
                check(Modifier.isFinal(field.getModifiers()), field + " is not final");
            } else {
                instanceFields++;
            }
        }
        check(found.equals(new TreeSet<>(Arrays.asList("INVALID_ARGUMENT", "ILLEGAL_STATE", "CAPACITY_EXCEEDED", "NONE"))),
            "the visible fields are " + found);
        check(instanceFields <= 20, "there are too many fields");
        check(PlainDrawing.INVALID_ARGUMENT == -1, "INVALID_ARGUMENT");
        check(PlainDrawing.ILLEGAL_STATE == -2, "ILLEGAL_STATE");
        check(PlainDrawing.CAPACITY_EXCEEDED == -3, "CAPACITY_EXCEEDED");
        check(PlainDrawing.NONE == -9, "NONE");
    }

    private static void checkSource() throws IOException {
        String source = Files.readString(Path.of("src/main/java/PlainDrawing.java"));
        String code = source.replaceAll("(?s)/\\*.*?\\*/", "").replaceAll("//[^\\n]*", "");
        for (String pattern : FORBIDDEN) {
            Matcher matcher = Pattern.compile(pattern, Pattern.MULTILINE).matcher(code);
            check(!matcher.find(), "the source has " + pattern);
        }
        for (int i = 0; i < source.length(); i++) {
            check(source.charAt(i) < 127, "a sign outside ASCII in the source at " + i);
        }
    }

    public static void main(String[] args) throws IOException {
        Class<?> type = PlainDrawing.class;
        check(type.getModifiers() == (Modifier.PUBLIC | Modifier.FINAL), "the modifiers of the class");
        check(type.getDeclaredConstructors().length == 1, "the number of constructors");
        for (Constructor<?> constructor : type.getDeclaredConstructors()) {
            check(constructor.getModifiers() == Modifier.PUBLIC, "the modifiers of the constructor");
            check(constructor.getParameterCount() == 0, "the parameters of the constructor");
        }
        checkMethods();
        checkFields();
        checkSource();
        System.out.println(wrong == 0 ? "the face is as due" : wrong + " things are not as due");
        if (wrong != 0) System.exit(1);
    }
}
