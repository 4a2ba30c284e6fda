import java.io.IOException;
import java.lang.reflect.Array;
import java.lang.reflect.Constructor;
import java.lang.reflect.Field;
import java.lang.reflect.Member;
import java.lang.reflect.Method;
import java.lang.reflect.Modifier;
import java.nio.file.Files;
import java.nio.file.Path;
import java.util.ArrayList;
import java.util.Arrays;
import java.util.IdentityHashMap;
import java.util.List;
import java.util.TreeSet;
import java.util.regex.Matcher;
import java.util.regex.Pattern;

/** The public face as the document has it, and those rules of LANGUAGE.md that can be seen from the outside. */
public final class FaceTest {
    private static final String[] FACE = {
        "int pit(int)", "int leaf(int,int,int,int)", "int as(int,int,int)", "int about(int,int,int)",
        "int change(int,int,int,int,int)", "int lay(int,int,int,int,int)", "int letters(long)", "int blank()",
        "int fault(int)", "int hand()", "int law()", "int at(int,int,int)", "int years(int,int)",
        "int lean(int,int)", "int like(int,int,int)", "int over(int,int,int)", "int slide(int,int,int)",
        "int chance(int,int,int,int)", "int together(int,int,int,int)", "int lies(int,int,int,int)",
        "int sure(int,int,int,int)", "int join(int,int,int,int,int)", "int keep(int,boolean)",
        "int tie(int,int,int)", "int untie(int)", "int ashes(boolean)", "int closes()", "int span(int,int,int)",
        "int date(int,int,int)", "int calendars(int)", "int castOut()", "int hangs(int,int)", "int dig(int)",
        "int pace(int,int,int,int)", "int took(int,int,int)", "int image()", "int restore()", "int count(int)",
        "long digest()",
    };
    private static final String[] CONSTANTS = {"NONE", "UNKNOWN", "OUTSIDE", "STATE", "FULL"};
    private static final String[] REFUSED = {
        "\\b(throw|try|catch|finally|synchronized|assert|package|protected|volatile|native|double|float|var)\\b",
        "Exact\\b", "::", "->", "\\bSystem\\.(?!arraycopy)", "\\b(Random|Thread|HashMap|Optional|Object)\\b",
        "\\b(hashCode|toString|stream|format)\\b",
    };

    private static int wrong = 0;

    public static void main(String[] args) throws IOException, IllegalAccessException {
        face();
        nestedClasses();
        source();
        room();
        System.out.println("the face: " + wrong + " faults");
        if (wrong > 0) {
            System.exit(1);
        }
    }

    private static void must(boolean is, String what) {
        if (!is) {
            wrong++;
            System.out.println("fault: " + what);
        }
    }

    private static String told(Method method) {
        List<String> types = new ArrayList<>();
        for (Class<?> type : method.getParameterTypes()) {
            types.add(type.getName());
        }
        return method.getReturnType().getName() + " " + method.getName() + "(" + String.join(",", types) + ")";
    }

    private static void face() {
        Class<?> face = LeavesOfMud.class;
        must(Modifier.isPublic(face.getModifiers()) && Modifier.isFinal(face.getModifiers()), "public and final");
        TreeSet<String> methods = new TreeSet<>();
        TreeSet<String> publicNames = new TreeSet<>();
        for (Method method : face.getDeclaredMethods()) {
            if (Modifier.isPublic(method.getModifiers())) {
                must(!Modifier.isStatic(method.getModifiers()), "not static: " + method);
                methods.add(told(method));
                publicNames.add(method.getName());
            } else {
                mustBePrivate(method);
            }
        }
        must(methods.equals(new TreeSet<>(Arrays.asList(FACE))), "the methods are " + methods);
        TreeSet<String> constants = new TreeSet<>();
        for (Field field : face.getDeclaredFields()) {
            if (Modifier.isPublic(field.getModifiers())) {
                must(Modifier.isStatic(field.getModifiers()) && Modifier.isFinal(field.getModifiers()), "" + field);
                constants.add(field.getName());
            } else {
                mustBePrivate(field);
            }
        }
        must(constants.equals(new TreeSet<>(Arrays.asList(CONSTANTS))), "the constants are " + constants);
        Constructor<?>[] made = face.getDeclaredConstructors();
        must(made.length == 1 && Modifier.isPublic(made[0].getModifiers()) && made[0].getParameterCount() == 0,
                "one public constructor");
        privateNames(face, publicNames);
        for (Class<?> inside : face.getDeclaredClasses()) {
            privateNames(inside, publicNames);
        }
    }

    private static void mustBePrivate(Member member) {
        must(Modifier.isPrivate(member.getModifiers()) || member.isSynthetic(), "private: " + member);
    }

    private static void privateNames(Class<?> in, TreeSet<String> publicNames) {
        for (Method method : in.getDeclaredMethods()) {
            boolean ofTheFace = in == LeavesOfMud.class && Modifier.isPublic(method.getModifiers());
            must(ofTheFace || !publicNames.contains(method.getName()), "a public method's name: " + method);
            must(method.getParameterCount() <= 7, "seven parameters at most: " + method);
        }
    }

    private static void nestedClasses() {
        Class<?>[] classes = LeavesOfMud.class.getDeclaredClasses();
        must(classes.length + 1 <= 12, "twelve classes at most");
        for (Class<?> inside : classes) {
            must(Modifier.isStatic(inside.getModifiers()), "static: " + inside);
            must(!Modifier.isPublic(inside.getModifiers()), "not public: " + inside);
            must(inside.getDeclaredClasses().length == 0, "no class inside it: " + inside);
            int fields = 0;
            for (Field field : inside.getDeclaredFields()) {
                must(!Modifier.isStatic(field.getModifiers()) || Modifier.isFinal(field.getModifiers()), "" + field);
                fields += Modifier.isStatic(field.getModifiers()) ? 0 : 1;
            }
            must(fields <= 22, "some twenty fields: " + inside + " has " + fields);
        }
    }

    private static void source() throws IOException {
        String text = Files.readString(Path.of("src/main/java/LeavesOfMud.java"));
        String code = text.replaceAll("(?s)/\\*.*?\\*/", "").replaceAll("//[^\n]*", "");
        for (String refused : REFUSED) {
            Matcher found = Pattern.compile(refused).matcher(code);
            must(!found.find(), "the source has what " + refused + " finds");
        }
        Matcher imports = Pattern.compile("import ([^;]*);").matcher(code);
        while (imports.find()) {
            must(imports.group(1).equals("java.util.Arrays"), "imports " + imports.group(1));
        }
        for (int i = 0; i < text.length(); i++) {
            must(text.charAt(i) < 127, "a sign above 126 at " + i);
        }
        methodLengths(text);
        madeInFieldsAlone(code);
    }

    /** All rows are made with the object: no call makes one, so a run takes no more room by its calls. */
    private static void madeInFieldsAlone(String code) {
        for (String line : code.split("\n")) {
            must(!line.matches(".*\\b(new|clone|copyOf|copyOfRange)\\b.*") || line.matches(" +private final .* = new .*;"),
                    "made outside a field: " + line.trim());
        }
    }

    /** A run has one room for 600,000 objects and arrays, 7.3 million fields and elements: one is far below. */
    private static void room() throws IllegalAccessException {
        IdentityHashMap<Object, Boolean> seen = new IdentityHashMap<>();
        int slots = slotsOf(new LeavesOfMud(), seen);
        must(seen.size() <= 80, "objects and arrays of one: " + seen.size());
        must(slots <= 4000, "fields and elements of one: " + slots);
    }

    private static int slotsOf(Object one, IdentityHashMap<Object, Boolean> seen) throws IllegalAccessException {
        if (one == null || seen.put(one, true) != null) {
            return 0;
        }
        int slots = 0;
        if (one.getClass().isArray()) {
            slots = Array.getLength(one);
            for (int i = 0; !one.getClass().getComponentType().isPrimitive() && i < Array.getLength(one); i++) {
                slots += slotsOf(Array.get(one, i), seen);
            }
            return slots;
        }
        for (Field field : one.getClass().getDeclaredFields()) {
            if (!Modifier.isStatic(field.getModifiers())) {
                slots++;
                field.setAccessible(true);
                slots += field.getType().isPrimitive() ? 0 : slotsOf(field.get(one), seen);
            }
        }
        return slots;
    }

    /** By the indents: a method begins with a line that ends in ") {" and ends with "}" at the same indent. */
    private static void methodLengths(String text) {
        String[] lines = text.split("\n");
        for (int i = 0; i < lines.length; i++) {
            if (!lines[i].matches("( {4}| {8})(private|public) .*\\) \\{")) {
                continue;
            }
            String indent = lines[i].replaceAll("\\S.*", "");
            int end = i;
            while (end < lines.length && !lines[end].equals(indent + "}")) {
                end++;
            }
            must(end - i + 1 <= 60, "sixty lines at most: " + lines[i].trim());
        }
    }
}
