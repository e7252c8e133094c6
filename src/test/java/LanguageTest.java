import java.io.IOException;
import java.lang.reflect.Array;
import java.lang.reflect.Constructor;
import java.lang.reflect.Field;
import java.lang.reflect.Method;
import java.lang.reflect.Modifier;
import java.nio.file.Files;
import java.nio.file.Path;
import java.util.ArrayList;
import java.util.Arrays;
import java.util.Collections;
import java.util.IdentityHashMap;
import java.util.List;
import java.util.Set;
import java.util.TreeSet;
import java.util.regex.Matcher;
import java.util.regex.Pattern;

/** Rules of LANGUAGE.md that can be looked for in the source, and the class's face. */
public final class LanguageTest {
    private static final String[] FACE = {
        "int feed(int,int,int,int,int)", "boolean end(int)", "int fault(int)", "int text(int)", "int spoke(int,int)",
        "boolean law(int)", "boolean slip(int)", "int turn()", "int hold()", "int away(int)", "int mend(int)",
        "boolean vote(boolean)", "int wet(int)", "int give(int)", "int years(int,long)", "int undo()", "int log(int,int)",
        "int step(int,int,int)", "int run(int,int)", "int perform(int)", "int bears(int,int)", "int spare()",
        "int plan(int,int,int)", "int settled(int)", "int seen(int,boolean)", "int views(int,int)", "int ask(int)",
        "int power(int)", "int often(int,int)", "int first(int)", "int game(int,int,int,int,int)", "int rests(int,int,int)",
        "int odds(int,int,int)", "int shares(int,int)", "int all(int)", "int image()", "int back()", "int count(int)"};
    private static final String[] FORBIDDEN = {
        "->", "::", "\\bfinally\\b", "\\bsynchronized\\b", "\\bassert\\b", "\\btry\\b", "\\bcatch\\b", "\\bimport (?!java\\.util\\.)",
        "\\bpackage\\b", "\\bhashCode\\b", "Exact\\(", "\\bSystem\\.(?!arraycopy)", "\\bdouble\\b", "\\bfloat\\b", "\\bObject\\b",
        "\\bMath\\.(?!max|min|abs|floorDiv|floorMod)", "\\bInteger\\.(?!bitCount|compare|max|min)", "\" \\+|\\+ \"", "\\bvar\\b",
        "\\bInterrupted", "\\bThread", "\\bprotected\\b", "\\bstatic \\{"};

    private LanguageTest() {
    }

    public static void main(String[] args) throws IOException, IllegalAccessException {
        String source = bare(Files.readString(Path.of("src/main/java/SpokeRing.java")));
        for (String pattern : FORBIDDEN) {
            Matcher found = Pattern.compile(pattern).matcher(source);
            Kit.due("the source has " + pattern, found.find(), false);
        }
        face();
        inside();
        lengths(source);
        madeInConstructors(source);
        room();
        Kit.end("LanguageTest");
    }

    /** The source without its comments. */
    private static String bare(String source) {
        return source.replaceAll("(?s)/\\*.*?\\*/", "").replaceAll("//[^\n]*", "");
    }

    private static void face() {
        Set<String> want = new TreeSet<>(List.of(FACE));
        Set<String> have = new TreeSet<>();
        Set<String> publicNames = new TreeSet<>();
        for (Method method : SpokeRing.class.getDeclaredMethods()) {
            if (Modifier.isPublic(method.getModifiers())) {
                have.add(told(method));
                publicNames.add(method.getName());
                Kit.due(method + " is static", Modifier.isStatic(method.getModifiers()), false);
            }
        }
        Kit.due("the face is " + have, have.equals(want), true);
        for (Method method : SpokeRing.class.getDeclaredMethods()) {
            if (!Modifier.isPublic(method.getModifiers())) {
                Kit.due(method + " is private", Modifier.isPrivate(method.getModifiers()), true);
                Kit.due(method + " has a name of its own", publicNames.contains(method.getName()), false);
            }
        }
        for (Field field : SpokeRing.class.getDeclaredFields()) {
            boolean constant = field.getName().equals("NONE") || field.getName().equals("HIDDEN");
            Kit.due(field + " is private", Modifier.isPrivate(field.getModifiers()), !constant);
            Kit.due(field + " is public", Modifier.isPublic(field.getModifiers()), constant);
        }
        Constructor<?>[] constructors = SpokeRing.class.getDeclaredConstructors();
        Kit.due("constructors", constructors.length, 1);
        Kit.due("a public constructor", Modifier.isPublic(constructors[0].getModifiers()), true);
        Kit.due("without parameters", constructors[0].getParameterCount(), 0);
        Kit.due("a final class", Modifier.isFinal(SpokeRing.class.getModifiers()), true);
    }

    private static String told(Method method) {
        List<String> parameters = new ArrayList<>();
        for (Class<?> type : method.getParameterTypes()) {
            parameters.add(type.getName());
        }
        return method.getReturnType().getName() + " " + method.getName() + "(" + String.join(",", parameters) + ")";
    }

    private static void inside() {
        Class<?>[] classes = SpokeRing.class.getDeclaredClasses();
        Kit.due("twelve classes at most", classes.length + 1 <= 12, true);
        for (Class<?> one : classes) {
            Kit.due(one + " is static", Modifier.isStatic(one.getModifiers()), true);
            Kit.due(one + " is not public", Modifier.isPublic(one.getModifiers()), false);
            int fields = 0;
            for (Field field : one.getDeclaredFields()) {
                boolean isStatic = Modifier.isStatic(field.getModifiers());
                fields += isStatic ? 0 : 1;
                Kit.due(field + " is final where static", isStatic && !Modifier.isFinal(field.getModifiers()), false);
            }
            Kit.due(one + " has twenty fields at most", fields <= 20, true);
            for (Method method : one.getDeclaredMethods()) {
                Kit.due(method + " has seven parameters at most", method.getParameterCount() <= 7, true);
            }
        }
        int fields = 0;
        for (Field field : SpokeRing.class.getDeclaredFields()) {
            fields += Modifier.isStatic(field.getModifiers()) ? 0 : 1;
        }
        Kit.due("twenty fields at most", fields <= 20, true);
    }

    /** No method goes on for more than sixty lines (by the indentation of the brace that ends it). */
    private static void lengths(String source) {
        String[] lines = source.split("\n");
        Pattern head = Pattern.compile("^( +)[\\w\\[\\]<> ]+\\([^;]*\\)( throws \\w+)? \\{$");
        for (int i = 0; i < lines.length; i++) {
            Matcher found = head.matcher(lines[i]);
            if (!found.matches() || lines[i].matches(" +(if|for|while|switch|\\} else).*")) {
                continue;
            }
            int end = i;
            while (end < lines.length && !lines[end].equals(found.group(1) + "}")) {
                end++;
            }
            Kit.due("a method of " + (end - i) + " lines: " + lines[i].trim(), end - i <= 60, true);
        }
    }

    /** All calls live in one room: what is made is made by constructors, but for what is thrown. */
    private static void madeInConstructors(String source) {
        Pattern head = Pattern.compile("^ +[\\w\\[\\]<> ]+\\([^;]*\\)( throws \\w+)? \\{$");
        Pattern constructor = Pattern.compile("^ +(public )?[A-Z]\\w*\\([^;]*\\) \\{$");
        boolean within = false;
        int made = 0;
        for (String line : source.split("\n")) {
            if (head.matcher(line).matches() && !line.matches(" +(if|for|while|switch|\\} else).*")) {
                within = constructor.matcher(line).matches();
            }
            if (line.matches(".*\\bnew\\b.*")) {
                made++;
                Kit.due("made in a constructor or thrown: " + line.trim(), within || line.contains("throw new "), true);
            }
        }
        Kit.due("something is made", made > 10, true);
    }

    /** An object with all that it keeps takes a hundredth of the room at most (600,000 objects, 7.3 million elements). */
    private static void room() throws IllegalAccessException {
        Set<Object> objects = Collections.newSetFromMap(new IdentityHashMap<>());
        List<Object> open = new ArrayList<>();
        long elements = 0;
        open.add(new SpokeRing());
        while (!open.isEmpty()) {
            Object one = open.remove(open.size() - 1);
            if (one == null || one instanceof String || !objects.add(one)) {
                continue;
            }
            if (one.getClass().isArray()) {
                elements += Array.getLength(one);
                if (one instanceof Object[] row) {
                    open.addAll(Arrays.asList(row));
                }
                continue;
            }
            for (Field field : one.getClass().getDeclaredFields()) {
                if (!Modifier.isStatic(field.getModifiers())) {
                    elements++;
                    field.setAccessible(true);
                    open.add(field.getType().isPrimitive() ? null : field.get(one));
                }
            }
        }
        Kit.due("objects: " + objects.size(), objects.size() <= 6000, true);
        Kit.due("fields and elements: " + elements, elements <= 73000, true);
    }
}
