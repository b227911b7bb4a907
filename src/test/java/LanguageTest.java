import java.io.IOException;
import java.lang.reflect.Constructor;
import java.lang.reflect.Field;
import java.lang.reflect.Method;
import java.lang.reflect.Modifier;
import java.nio.file.Files;
import java.nio.file.Path;
import java.util.ArrayList;
import java.util.List;
import java.util.TreeSet;
import java.util.regex.Matcher;
import java.util.regex.Pattern;

/** What of LANGUAGE.md can be held against the class by looking at it: the face and the words used. */
public final class LanguageTest {
    private static final String[] FACE = {
        "long row(int, int, int)", "long barrel(int, int, int)", "long join(int, int)", "long leave(int)",
        "long lay(int, int, int)", "long lift(int, int)", "long worth(int, int)", "long fill(int, int, long)",
        "long rack(int, int, long)", "long topUp(int, int)", "long pick(int, long)", "long forget()",
        "long blend(int)", "long breathe(int)", "long bottle(int, int, long)", "long drain(int, long, int)",
        "long wash(int)", "long partAt(int, int)", "long amountAt(int, int)", "long room(int)", "long label()",
        "long rule(int, int, int, int, int)", "long judge(int, int)", "long plan(int, long, int)", "long undo()",
        "int kindOf(int)", "int where(int)", "int at(int, int)", "long amount(int)", "long part(int, int)",
        "int parts(int)", "long account(int, int)", "int odd()", "int strays()", "int month()", "int bottlings()",
        "long bottling(int, int)", "int entries()", "long entry(int, int)", "int tries()", "int closed()",
        "int why()", "int which()", "int trace(int)", "int picked()", "long planned(int)", "long digest()"};
    private static final String[] FORBIDDEN = {
        "throw", "throws", "try", "catch", "finally", "synchronized", "assert", "instanceof", "->", "::", "Exact(",
        "hashCode", "toString", "equals", "double", "float", "Random", "currentTimeMillis", "nanoTime", "Thread",
        "static {", "protected", "System.out", "@"};
    private static final Pattern METHOD = Pattern.compile("((?:    ){1,2})[a-zA-Z].*\\) \\{");
    private static final int MOST_LINES = 60;
    private static int wrong = 0;

    private static void fault(String text) {
        wrong++;
        System.out.println(text);
    }

    private static String told(Method m) {
        StringBuilder types = new StringBuilder();
        for (Class<?> type : m.getParameterTypes()) {
            types.append(types.length() == 0 ? "" : ", ").append(type.getSimpleName());
        }
        return m.getReturnType().getSimpleName() + " " + m.getName() + "(" + types + ")";
    }

    private static void checkFace() {
        TreeSet<String> want = new TreeSet<>(List.of(FACE));
        TreeSet<String> names = new TreeSet<>();
        for (Method m : BlendCellar.class.getDeclaredMethods()) {
            if (!Modifier.isPrivate(m.getModifiers())) {
                names.add(m.getName());
                if (!Modifier.isPublic(m.getModifiers()) || !want.remove(told(m))) {
                    fault("not in the face: " + told(m));
                }
            }
        }
        for (String missing : want) {
            fault("missing in the face: " + missing);
        }
        for (Field f : BlendCellar.class.getDeclaredFields()) {
            if (!Modifier.isPrivate(f.getModifiers())) {
                fault("a field that is not private: " + f.getName());
            }
        }
        Constructor<?>[] made = BlendCellar.class.getDeclaredConstructors();
        if (made.length != 1 || made[0].getParameterCount() != 0 || !Modifier.isPublic(made[0].getModifiers())) {
            fault("the constructor is not the document's");
        }
        if (!Modifier.isFinal(BlendCellar.class.getModifiers())) {
            fault("the class is not final");
        }
        checkClasses(names);
    }

    private static void checkClasses(TreeSet<String> publicNames) {
        List<Class<?>> all = new ArrayList<>(List.of(BlendCellar.class.getDeclaredClasses()));
        for (Class<?> inside : all) {
            if (!Modifier.isStatic(inside.getModifiers()) || Modifier.isPublic(inside.getModifiers())) {
                fault("a class inside that is public or not static: " + inside.getName());
            }
        }
        all.add(BlendCellar.class);
        if (all.size() > 12) {
            fault("too many classes: " + all.size());
        }
        for (Class<?> each : all) {
            int fields = 0;
            for (Field f : each.getDeclaredFields()) {
                boolean isStatic = Modifier.isStatic(f.getModifiers());
                fields += isStatic ? 0 : 1;
                if (isStatic && !Modifier.isFinal(f.getModifiers())) {
                    fault("a static field that is not final: " + f.getName());
                }
            }
            if (fields > 20) {
                fault("too many fields: " + each.getName());
            }
            for (Method m : each.getDeclaredMethods()) {
                if (m.getParameterCount() > 7) {
                    fault("too many parameters: " + m);
                }
                if (!Modifier.isPublic(m.getModifiers()) && publicNames.contains(m.getName())) {
                    fault("bears the name of a public method: " + m);
                }
            }
        }
    }

    private static void checkWords() throws IOException {
        String text = Files.readString(Path.of("src/main/java/BlendCellar.java"));
        String code = text.replaceAll("(?s)/\\*.*?\\*/", " ").replaceAll("//[^\n]*", " ");
        for (String word : FORBIDDEN) {
            boolean isWord = Character.isLetter(word.charAt(0)) && Character.isLetter(word.charAt(word.length() - 1));
            String pattern = Pattern.quote(word);
            if (Pattern.compile(isWord ? "\\b" + pattern + "\\b" : pattern).matcher(code).find()) {
                fault("the class uses: " + word);
            }
        }
        for (String line : code.split("\n")) {
            if (line.startsWith("import ") && !line.matches("import java\\.util\\.(ArrayList|Arrays);\\s*")) {
                fault("not to be imported: " + line);
            }
        }
        if (code.contains("package ")) {
            fault("the class has a package");
        }
    }

    /** A method begins and ends with lines of the same indent: 4 in the class, 8 in a class inside it. */
    private static void checkLengths() throws IOException {
        List<String> lines = Files.readAllLines(Path.of("src/main/java/BlendCellar.java"));
        int methods = 0;
        for (int i = 0; i < lines.size(); i++) {
            Matcher head = METHOD.matcher(lines.get(i));
            if (head.matches()) {
                int end = i;
                while (end < lines.size() && !lines.get(end).equals(head.group(1) + "}")) {
                    end++;
                }
                methods++;
                if (end - i + 1 > MOST_LINES) {
                    fault("a method of " + (end - i + 1) + " lines: " + lines.get(i).trim());
                }
            }
        }
        if (methods < FACE.length) {
            fault("only " + methods + " methods were found in the file");
        }
    }

    public static void main(String[] args) throws IOException {
        checkFace();
        checkWords();
        checkLengths();
        System.out.println(wrong == 0 ? "the class keeps to its face and words" : wrong + " faults");
        if (wrong != 0) {
            System.exit(1);
        }
    }
}
