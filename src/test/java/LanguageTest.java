import java.io.IOException;
import java.lang.reflect.Field;
import java.lang.reflect.Method;
import java.lang.reflect.Modifier;
import java.nio.file.Files;
import java.nio.file.Path;
import java.util.Arrays;
import java.util.Set;
import java.util.TreeSet;
import java.util.regex.Matcher;
import java.util.regex.Pattern;

/** Looks through the class for what LANGUAGE.md rules out, as far as a reader of lines and members can see it. */
public final class LanguageTest {
    private static final Path SOURCE = Path.of("src/main/java/NineKeysRound.java");
    private static final String[] FACE = {
        "int post(int)", "int posts(int,int,int)", "int mend(int,int,int)", "int of(int,int)", "int feed(int)", "int law()",
        "int round(int,int)", "int first(int,int)", "int by(int,int,int)", "int unseen(int,int,int,int)", "int lost(int,int,int,int)",
        "int red(int,int)", "int gap(int,int)", "int late(int)", "int shortest(int,int)", "int leftOut(int,int)",
        "int thief(int,int,int,int)", "int safe(int,int)", "int two(int,int,int)", "int success(int,int,int,int)",
        "int bestMinute(int,int,int,int)", "int mix(int,int,int)", "int paper(int,int)", "int which(int)", "int fit(int,int)",
        "int hang(int,int)", "int drawn(int,int,int)", "int walk(int)", "int waits(int)", "int home()", "int led(int)", "int image()",
        "int back()", "int undo()", "int redo()", "int body(int)", "int act(int,int,int)", "int trace(int)", "int keep(int,int)",
        "int row(int,int,int)", "int put(int,int,long)", "long element(int,int)", "int shift(int,int,int,int,int)",
        "int taken(int,int)", "int count(int)",
    };
    private static int wrong;

    private LanguageTest() {
    }

    public static void main(String[] args) throws IOException {
        checkFace();
        checkMembers(NineKeysRound.class);
        Class<?>[] inside = NineKeysRound.class.getDeclaredClasses();
        for (Class<?> c : inside) {
            if (!Modifier.isStatic(c.getModifiers())) fault(2, c + " is not static");
            if (Modifier.isPublic(c.getModifiers()) || Modifier.isProtected(c.getModifiers())) fault(1, c + " is part of the face");
            checkMembers(c);
            checkNames(c);
        }
        if (inside.length > 12) fault(11, "more than twelve classes");
        String code = Files.readString(SOURCE).replaceAll("(?s)/\\*.*?\\*/", " ").replaceAll("//[^\n]*", "");
        checkWords(code);
        checkLengths(Files.readString(SOURCE));
        System.out.println(wrong == 0 ? "the language is kept to" : wrong + " rows break its rules");
        if (wrong != 0) System.exit(1);
    }

    private static void fault(int rule, String what) {
        wrong++;
        System.out.println("rule " + rule + ": " + what);
    }

    private static void checkFace() {
        Set<String> face = new TreeSet<>(), privates = new TreeSet<>(), publics = new TreeSet<>();
        for (Method m : NineKeysRound.class.getDeclaredMethods()) {
            if (Modifier.isPrivate(m.getModifiers())) {
                privates.add(m.getName());
                continue;
            }
            publics.add(m.getName());
            StringBuilder text = new StringBuilder(m.getReturnType() + " " + m.getName() + "(");
            for (Class<?> p : m.getParameterTypes()) text.append(text.charAt(text.length() - 1) == '(' ? "" : ",").append(p);
            face.add(text.append(")").toString());
        }
        if (!face.equals(new TreeSet<>(Arrays.asList(FACE)))) fault(1, "the face is " + face);
        privates.retainAll(publics);
        if (!privates.isEmpty()) fault(1, "private methods bear public names: " + privates);
        for (Field f : NineKeysRound.class.getDeclaredFields()) {
            boolean constant = Set.of("BAD", "NOT", "FULL", "STATE", "VOID").contains(f.getName());
            if (constant != Modifier.isPublic(f.getModifiers()) || !constant && !Modifier.isPrivate(f.getModifiers())) fault(1, "field " + f);
        }
        if (NineKeysRound.class.getDeclaredConstructors().length != 1) fault(1, "more constructors than one");
        if (!Modifier.isFinal(NineKeysRound.class.getModifiers())) fault(1, "the class is not final");
    }

    private static void checkMembers(Class<?> c) {
        int fields = 0;
        for (Field f : c.getDeclaredFields()) {
            if (!Modifier.isStatic(f.getModifiers())) fields++;
            else if (!Modifier.isFinal(f.getModifiers())) fault(5, f + " is not final");
        }
        if (fields > 20) fault(11, c + " has " + fields + " fields");
        for (Method m : c.getDeclaredMethods()) if (m.getParameterCount() > 7) fault(11, m + " takes too many parameters");
    }

    /** The rule speaks of private methods; none of any class inside shares a name with the face, to be sure. */
    private static void checkNames(Class<?> c) {
        for (Method m : c.getDeclaredMethods()) {
            for (String call : FACE) if (call.contains(" " + m.getName() + "(")) fault(1, m + " bears a public name");
        }
    }

    private static void checkWords(String code) {
        String[] words = {
            "throw", "throws", "try", "catch", "synchronized", "assert", "import", "package", "abstract", "Object", "var",
            "double", "float", "equals", "hashCode", "toString", "protected", "native", "transient", "volatile", "sort\\(",
        };
        for (String word : words) if (Pattern.compile("\\b" + word + "(?!\\w)").matcher(code).find()) fault(6, "the word " + word);
        if (code.contains("->") || code.contains("::")) fault(2, "a lambda or a method reference");
        Matcher library = Pattern.compile("\\b(System|Math|Integer|Long|Arrays|String|Character|Byte|Short)\\.(\\w+)").matcher(code);
        Set<String> allowed = Set.of("System.arraycopy", "Math.max", "Math.min", "Math.abs", "Integer.bitCount");
        while (library.find()) if (!allowed.contains(library.group())) fault(4, library.group());
        for (int i = 0; i < code.length(); i++) if (code.charAt(i) > 126) fault(4, "the sign " + (int) code.charAt(i));
        checkObjects(code);
    }

    /** All rows are made with the object, so that calls fill no room. */
    private static void checkObjects(String code) {
        for (String line : code.split("\n")) {
            boolean kept = line.matches(" {4,8}(private )?final [\\w\\[\\]]+ \\w+ = new .*") || line.trim().equals("shelves[i] = new Shelf();");
            if (line.matches(".*\\bnew\\b.*") && !kept) fault(12, "made by a call: " + line.trim());
        }
    }

    private static void checkLengths(String source) {
        int began = 0, row = 0;
        for (String line : source.split("\n")) {
            row++;
            if (line.matches(" {4,8}[\\w\\[\\] ]+\\(.*\\) \\{")) began = row;
            if (line.matches(" {4,8}\\}") && began > 0) {
                if (row - began > 60) fault(11, "a method of " + (row - began) + " lines at " + began);
                began = 0;
            }
        }
    }
}
