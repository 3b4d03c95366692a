import java.lang.reflect.Constructor;
import java.lang.reflect.Field;
import java.lang.reflect.Method;
import java.lang.reflect.Modifier;
import java.nio.charset.StandardCharsets;
import java.nio.file.Files;
import java.nio.file.Path;
import java.util.ArrayList;
import java.util.List;
import java.util.Set;
import java.util.TreeSet;
import java.util.regex.Matcher;
import java.util.regex.Pattern;

/** The face of the document, and what LANGUAGE.md rules out as far as it can be seen from outside. */
public final class LanguageTests {
    private static final String FACE = "aboard(int,boolean)int about(int)int back()int becomes(int,int,int)int best(int)int"
        + " between(int,int,int,boolean)int by(int)boolean course(int)int depth(int,int,int)boolean end(int)int fault(int)int"
        + " feed(int,int,int,int,int)int go(int,int)int goods(int)int image()int kept(int,int)boolean leap(int,boolean)int"
        + " level(int)int meet(int,int,int,int)int reach(int,int,int)int rocks(int)boolean sail(int)int ship(int)int text()int"
        + " think()int undo()int weigh(int)boolean winds(int,int)boolean";

    public static void main(String[] args) throws Exception {
        face();
        classesInside();
        source();
        Due.close("LanguageTests");
    }

    private static void face() {
        Set<String> seen = new TreeSet<>();
        Set<String> names = new TreeSet<>();
        for (Method m : ShipUnstopped.class.getDeclaredMethods()) {
            if (Modifier.isPublic(m.getModifiers())) {
                seen.add(told(m));
                names.add(m.getName());
                Due.no("static " + m, Modifier.isStatic(m.getModifiers()));
            }
        }
        Due.yes("the face: " + seen, seen.equals(new TreeSet<>(List.of(FACE.split(" ")))));
        for (Class<?> c : classes()) {
            for (Method m : c.getDeclaredMethods()) {
                boolean isPublic = Modifier.isPublic(m.getModifiers());
                Due.yes("private, with a name of its own: " + m,
                    m.isSynthetic() || isPublic && c == ShipUnstopped.class || !isPublic && !names.contains(m.getName()));
                Due.yes("at most seven parameters: " + m, m.getParameterCount() <= 7);
                Due.yes("private in the class itself: " + m, c != ShipUnstopped.class || isPublic || Modifier.isPrivate(m.getModifiers()));
            }
        }
        Due.yes("public and final", ShipUnstopped.class.getModifiers() == (Modifier.PUBLIC | Modifier.FINAL));
        Constructor<?>[] makers = ShipUnstopped.class.getDeclaredConstructors();
        Due.is("constructors", makers.length, 1);
        Due.yes("its argument", makers[0].getParameterCount() == 1 && makers[0].getParameterTypes()[0] == int.class);
        for (Field f : ShipUnstopped.class.getDeclaredFields()) {
            boolean constant = f.getName().equals("NONE") && Modifier.isPublic(f.getModifiers()) && f.getType() == int.class;
            Due.yes("a field: " + f, constant || Modifier.isPrivate(f.getModifiers()));
        }
    }

    private static String told(Method m) {
        StringBuilder text = new StringBuilder(m.getName()).append('(');
        for (Class<?> p : m.getParameterTypes()) {
            text.append(text.charAt(text.length() - 1) == '(' ? "" : ",").append(p.getName());
        }
        return text.append(')').append(m.getReturnType().getName()).toString();
    }

    private static List<Class<?>> classes() {
        List<Class<?>> all = new ArrayList<>(List.of(ShipUnstopped.class.getDeclaredClasses()));
        all.add(ShipUnstopped.class);
        return all;
    }

    private static void classesInside() {
        Due.yes("at most twelve classes", classes().size() <= 12);
        for (Class<?> c : classes()) {
            Due.yes("static " + c, c == ShipUnstopped.class || Modifier.isStatic(c.getModifiers()));
            int fields = 0;
            for (Field f : c.getDeclaredFields()) {
                boolean isStatic = Modifier.isStatic(f.getModifiers());
                fields += isStatic ? 0 : 1;
                Due.yes("static fields are final: " + f, !isStatic || Modifier.isFinal(f.getModifiers()));
            }
            Due.yes("at most twenty fields: " + c, fields <= 20);
        }
    }

    private static void source() throws Exception {
        String whole = Files.readString(Path.of("src/main/java/ShipUnstopped.java"), StandardCharsets.ISO_8859_1);
        String code = whole.replaceAll("(?s)/\\*.*?\\*/", "").replaceAll("//[^\n]*", "").replaceAll("\"[^\"]*\"", "\"\"");
        for (String word : List.of("throw", "throws", "try", "catch", "finally", "synchronized", "assert", "package", "float", "double",
            "Exception", "Error", "Object", "System.out", "random", "Random", "native", "volatile", "transient", "yield", "var")) {
            Due.no("no " + word, Pattern.compile("(?<![\\w.])" + Pattern.quote(word) + "(?!\\w)").matcher(code).find());
        }
        Due.no("no lambda", code.contains("->"));
        Due.no("no method reference", code.contains("::"));
        Matcher imports = Pattern.compile("import ([^;]*);").matcher(code);
        while (imports.find()) {
            Due.yes("import " + imports.group(1), Set.of("java.util.Arrays", "java.util.ArrayList", "java.util.List").contains(imports.group(1)));
        }
        Matcher calls = Pattern.compile("(?<!\\w)(Math|Arrays|System|Integer|Long|List)\\.(\\w+)").matcher(code);
        Set<String> library = Set.of("Math.max", "Math.min", "Math.abs", "Arrays.fill", "System.arraycopy", "Integer.bitCount",
            "Integer.numberOfTrailingZeros");
        while (calls.find()) {
            Due.yes("library: " + calls.group(), library.contains(calls.group()));
        }
        methodLengths(whole);
    }

    private static void methodLengths(String whole) {
        String[] lines = whole.split("\n");
        int from = -1;
        String indent = "";
        for (int i = 0; i < lines.length; i++) {
            Due.yes("a line of 130 at most: " + lines[i], lines[i].length() <= 130);
            Matcher head = Pattern.compile("^( {4}| {8})[\\w\\[\\]<> ]+\\([^)]*\\) \\{$").matcher(lines[i]);
            if (head.find()) {
                from = i;
                indent = head.group(1);
            } else if (from >= 0 && lines[i].equals(indent + "}")) {
                Due.yes("a short method at line " + (from + 1), i - from <= 60);
                from = -1;
            }
        }
    }
}
