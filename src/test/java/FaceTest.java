import java.io.IOException;
import java.lang.reflect.Constructor;
import java.lang.reflect.Field;
import java.lang.reflect.Method;
import java.lang.reflect.Modifier;
import java.nio.charset.StandardCharsets;
import java.nio.file.Files;
import java.nio.file.Path;
import java.util.ArrayList;
import java.util.Arrays;
import java.util.HashSet;
import java.util.List;
import java.util.Set;
import java.util.TreeSet;
import java.util.regex.Matcher;
import java.util.regex.Pattern;

/** The face of the document, and the rules of LANGUAGE.md as far as the source's words tell. */
public final class FaceTest {
    private static final Check CHECK = new Check("FaceTest");
    private static final String SOURCE = "src/main/java/WokenByKettle.java";
    private static final String[] FACE = {
        "int part(int,int)", "int parts(int,int,int)", "int mend(int,int,int)", "int of(int,int)", "int feed(int)",
        "int law()", "int works(int)", "int gone(int,int)", "int stuck(int)", "long likely(int,int)", "int when(int)",
        "long mean(int)", "int worth(int)", "int begin(int)", "int change(int,int)", "long fire(int)",
        "long failed(int,int,int)", "int look(int)", "int test(int)", "int mending(int,int)", "int judge(int)",
        "int how(int,int)", "int whose(int,int)", "int drawn(int,int,int)", "int morning(int)", "int mended(int)",
        "int led(int)", "int image()", "int back()", "int undo()", "int redo()", "int body(int)",
        "int act(int,int,int)", "int trace(int)", "int keep(int,int)", "int row(int,int,int)", "int put(int,int,long)",
        "long element(int,int)", "int shift(int,int,int,int,int)", "int taken(int,int)", "int count(int)"};

    public static void main(String[] args) throws IOException {
        constants();
        methods();
        fields(WokenByKettle.class);
        for (Class<?> inside : WokenByKettle.class.getDeclaredClasses()) {
            inside(inside);
        }
        CHECK.holds("twelve classes at most", WokenByKettle.class.getDeclaredClasses().length < 12);
        words(Files.readString(Path.of(SOURCE), StandardCharsets.ISO_8859_1));
        CHECK.end();
    }

    private static void constants() {
        CHECK.due("BAD", WokenByKettle.BAD, -1);
        CHECK.due("NOT", WokenByKettle.NOT, -2);
        CHECK.due("FULL", WokenByKettle.FULL, -3);
        CHECK.due("STATE", WokenByKettle.STATE, -5);
        CHECK.due("VOID", WokenByKettle.VOID, -2000000000);
    }

    private static void methods() {
        Set<String> seen = new TreeSet<>();
        Set<String> names = publicNames();
        for (Method method : WokenByKettle.class.getDeclaredMethods()) {
            if (Modifier.isPublic(method.getModifiers())) {
                seen.add(told(method));
                CHECK.holds(method.getName() + " is no static one", !Modifier.isStatic(method.getModifiers()));
            } else {
                CHECK.holds(method.getName() + " is private", Modifier.isPrivate(method.getModifiers()));
                CHECK.holds(method.getName() + " is a name of its own", !names.contains(method.getName()));
            }
        }
        CHECK.holds("the face: " + seen, seen.equals(new TreeSet<>(Arrays.asList(FACE))));
        Constructor<?>[] all = WokenByKettle.class.getDeclaredConstructors();
        CHECK.holds("one public constructor",
            all.length == 1 && Modifier.isPublic(all[0].getModifiers()) && all[0].getParameterCount() == 0);
        CHECK.holds("public and final", WokenByKettle.class.getModifiers() == (Modifier.PUBLIC | Modifier.FINAL));
    }

    private static Set<String> publicNames() {
        Set<String> names = new HashSet<>();
        for (String line : FACE) {
            names.add(line.replaceAll("^\\w+ (\\w+).*", "$1"));
        }
        return names;
    }

    private static String told(Method method) {
        List<String> types = new ArrayList<>();
        for (Class<?> type : method.getParameterTypes()) {
            types.add(type.getName());
        }
        return method.getReturnType().getName() + " " + method.getName() + "(" + String.join(",", types) + ")";
    }

    private static void fields(Class<?> in) {
        int own = 0;
        for (Field field : in.getDeclaredFields()) {
            int modifiers = field.getModifiers();
            if (Modifier.isStatic(modifiers)) {
                CHECK.holds(in.getName() + "." + field.getName() + " is final", Modifier.isFinal(modifiers));
            } else {
                own++;
            }
            boolean constant = Arrays.asList("BAD", "NOT", "FULL", "STATE", "VOID").contains(field.getName());
            if (in == WokenByKettle.class) {
                CHECK.holds(field.getName() + " is as visible as it should be",
                    constant ? Modifier.isPublic(modifiers) : Modifier.isPrivate(modifiers));
            }
        }
        CHECK.holds(in.getName() + " has twenty fields at most", own <= 20);
    }

    private static void inside(Class<?> one) {
        CHECK.holds(one.getName() + " is static", Modifier.isStatic(one.getModifiers()));
        CHECK.holds(one.getName() + " is not public", !Modifier.isPublic(one.getModifiers()));
        CHECK.due("classes inside " + one.getName(), one.getDeclaredClasses().length, 0);
        fields(one);
        for (Field field : one.getDeclaredFields()) {
            CHECK.holds(field.getName() + " is private", Modifier.isPrivate(field.getModifiers()));
        }
        for (Constructor<?> constructor : one.getDeclaredConstructors()) {
            CHECK.holds(one.getName() + " is made in this file alone", Modifier.isPrivate(constructor.getModifiers()));
        }
        for (Method method : one.getDeclaredMethods()) {
            CHECK.holds(method.getName() + " is private", Modifier.isPrivate(method.getModifiers()));
            CHECK.holds(method.getName() + " is a name of its own", !publicNames().contains(method.getName()));
            CHECK.holds(method.getName() + " has seven parameters at most", method.getParameterCount() <= 7);
        }
    }

    private static void words(String source) {
        String code = source.replaceAll("(?s)/\\*.*?\\*/", "").replaceAll("//.*", "");
        for (String word : new String[] {"throw", "throws", "try", "catch", "synchronized", "assert", "package", "native",
            "volatile", "transient", "protected", "instanceof", "Random", "Thread", "Math\\.\\w+Exact", "->", "::",
            "nanoTime", "currentTimeMillis", "hashCode", "equals", "toString"}) {
            Matcher found = Pattern.compile(word.matches("\\w+") ? "\\b" + word + "\\b" : word).matcher(code);
            CHECK.holds("no " + word, !found.find());
        }
        Matcher imports = Pattern.compile("\\bimport\\s+([\\w.*]+)").matcher(code);
        while (imports.find()) {
            CHECK.holds("import " + imports.group(1), imports.group(1).equals("java.util.Arrays"));
        }
        Matcher library = Pattern.compile("\\b(System|Arrays|Math|Integer|Long)\\.(\\w+)").matcher(code);
        Set<String> known = new HashSet<>(Arrays.asList("System.arraycopy", "Arrays.fill", "Math.max", "Math.min",
            "Integer.bitCount", "Integer.MAX_VALUE", "Long.MAX_VALUE", "Long.MIN_VALUE"));
        while (library.find()) {
            CHECK.holds("library: " + library.group(), known.contains(library.group()));
        }
        for (int i = 0; i < source.length(); i++) {
            if (source.charAt(i) > 126) {
                CHECK.holds("a sign of the source beyond 126 at " + i, false);
            }
        }
        shortMethods(source.split("\n"));
    }

    private static void shortMethods(String[] lines) {
        int begun = -1;
        for (int i = 0; i < lines.length; i++) {
            if (lines[i].matches("^(    |        )(public|private)[^;=]*\\) \\{$")) {
                begun = i;
            }
            if (begun >= 0 && lines[i].matches("^(    |        )\\}$")) {
                CHECK.holds("the method from line " + (begun + 1) + " is short", i - begun < 60);
                begun = -1;
            }
        }
    }
}
