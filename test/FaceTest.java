import java.lang.reflect.Constructor;
import java.lang.reflect.Field;
import java.lang.reflect.Method;
import java.lang.reflect.Modifier;
import java.nio.file.Files;
import java.nio.file.Path;
import java.util.Set;
import java.util.TreeSet;

/** The public face of the document, and the rules of ../shared/LANGUAGE.md that a glance at class and source can tell. */
public final class FaceTest {
    private static final String[] FACE = {"letter 1", "town 0", "street 2", "plot 2", "crossing 3", "quarters 0", "open 0", "with 1",
        "corners 1", "sides 1", "isOpen 1", "whole 0", "points 1", "lamps 0", "where 1", "together 1", "steps 2", "next 4",
        "through 3", "spare 2", "most 2", "fear 2", "taken 1", "row 1", "judge 0", "seeds 2", "image 0", "on 0", "count 1"};
    private static final String[] FORBIDDEN = {"throw", "throws", "try", "catch", "finally", "synchronized", "assert", "import", "package",
        "var", "instanceof", "float", "double", "Object", "Exception", "Random", "System.currentTimeMillis", "System.nanoTime", "Thread",
        "hashCode", "toString", "equals", "volatile", "native", "transient", "strictfp"};

    public static void main(String[] args) throws Exception {
        face();
        classes();
        source(Files.readString(Path.of("src/main/java/CrossesAllOld.java")));
        Due.end("FaceTest");
    }

    private static void face() {
        Class<?> type = CrossesAllOld.class;
        Due.holds("public and final", Modifier.isPublic(type.getModifiers()) && Modifier.isFinal(type.getModifiers()));
        Constructor<?>[] constructors = type.getDeclaredConstructors();
        Due.is("constructors", 1, constructors.length);
        Due.holds("public constructor of nothing", Modifier.isPublic(constructors[0].getModifiers()) && constructors[0].getParameterCount() == 0);
        Set<String> face = new TreeSet<>(Set.of(FACE));
        Set<String> names = new TreeSet<>();
        for (String method : FACE) {
            names.add(method.substring(0, method.indexOf(' ')));
        }
        for (Method method : type.getDeclaredMethods()) {
            String told = method.getName() + " " + method.getParameterCount();
            if (Modifier.isPrivate(method.getModifiers())) {
                Due.holds("no private method of a public one's name: " + told, !names.contains(method.getName()));
            } else {
                Due.holds("in the face: " + told, face.remove(told));
                Due.holds("public and no static one: " + told, method.getModifiers() == Modifier.PUBLIC);
                Due.holds("answers an int: " + told, method.getReturnType() == int.class);
                for (Class<?> parameter : method.getParameterTypes()) {
                    Due.holds("is asked with ints: " + told, parameter == int.class);
                }
            }
        }
        Due.holds("all of the face is there, lacking " + face, face.isEmpty());
        for (Field field : type.getDeclaredFields()) {
            Due.holds("private: " + field.getName(), Modifier.isPrivate(field.getModifiers()));
        }
    }

    private static void classes() {
        for (Class<?> inner : CrossesAllOld.class.getDeclaredClasses()) {
            Due.holds("static, not public: " + inner, Modifier.isStatic(inner.getModifiers())
                && !Modifier.isPublic(inner.getModifiers()) && !Modifier.isProtected(inner.getModifiers()));
            fields(inner);
        }
        fields(CrossesAllOld.class);
        Due.holds("at most twelve classes", CrossesAllOld.class.getDeclaredClasses().length < 12);
    }

    private static void fields(Class<?> type) {
        int fields = 0;
        for (Field field : type.getDeclaredFields()) {
            if (Modifier.isStatic(field.getModifiers())) {
                boolean plain = field.getType().isPrimitive() || field.getType() == String.class;
                Due.holds("a constant: " + field, Modifier.isFinal(field.getModifiers()) && plain);
            } else {
                fields++;
            }
        }
        Due.holds("at most twenty fields: " + type, fields <= 20);
        for (Method method : type.getDeclaredMethods()) {
            Due.holds("at most seven parameters: " + method, method.getParameterCount() <= 7);
        }
    }

    private static void source(String text) {
        String code = text.replaceAll("(?s)/\\*.*?\\*/", " ").replaceAll("//[^\n]*", " ").replaceAll("\"[^\"\n]*\"", "\"\"");
        for (String word : FORBIDDEN) {
            boolean there = java.util.regex.Pattern.compile("\\b" + word.replace(".", "\\.") + "\\b").matcher(code).find();
            Due.holds("no " + word, !there);
        }
        for (String sign : new String[] {"->", "::", "@", "\"\"\""}) {
            Due.holds("no " + sign, !code.contains(sign));
        }
        // What no call makes, no run of calls can have too many of: all is made with the object, in its fields.
        for (String line : code.split("\n")) {
            boolean makes = java.util.regex.Pattern.compile("\\bnew\\b").matcher(line).find();
            Due.holds("made as a field: " + line.trim(), !makes || line.matches(" +(private )?final \\S+ \\w+ = new .*"));
        }
    }
}
