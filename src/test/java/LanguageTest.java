import java.io.IOException;
import java.lang.reflect.Constructor;
import java.lang.reflect.Field;
import java.lang.reflect.Method;
import java.lang.reflect.Modifier;
import java.nio.file.Files;
import java.nio.file.Path;
import java.util.ArrayList;
import java.util.Arrays;
import java.util.List;
import java.util.TreeSet;
import java.util.regex.Matcher;
import java.util.regex.Pattern;

/** Those rules of LANGUAGE.md that a program can look after, and the document's face. */
public final class LanguageTest {
    private static final Due due = new Due();
    private static final String FACE = "carry() cell(int,int) drift(int) fault() feed(int) fewest(int,int,int) goBack(int) house() "
            + "item(int,int) judge() keep(int) look() pool(int) recount(int,int) rests(int,int) see(int,int) seed(int) session() "
            + "stood(int) tear() tips(int) told(int) undo() vote(int,int,int) votes(int,int) waltz(int) write(int,int)";

    public static void main(String[] args) throws IOException {
        String source = Files.readString(Path.of("src/main/java/LevelVotes.java"));
        face();
        nestedClasses();
        words(withoutComments(source));
        imports(source);
        methodLengths(source);
        due.end();
    }

    private static void ask(String what, boolean holds) {
        due.is(what, holds ? 1 : 0, 1);
    }

    private static void face() {
        ask("public and final", LevelVotes.class.getModifiers() == (Modifier.PUBLIC | Modifier.FINAL));
        TreeSet<String> methods = new TreeSet<>();
        TreeSet<String> hidden = new TreeSet<>();
        for (Method m : LevelVotes.class.getDeclaredMethods()) {
            List<String> types = new ArrayList<>();
            for (Class<?> type : m.getParameterTypes()) {
                types.add(type.getName());
            }
            if (Modifier.isPrivate(m.getModifiers())) {
                hidden.add(m.getName());
            } else {
                ask(m + " is public, of the object, an int", m.getModifiers() == Modifier.PUBLIC && m.getReturnType() == int.class);
                methods.add(m.getName() + "(" + String.join(",", types) + ")");
            }
        }
        ask("the face is " + methods, String.join(" ", methods).equals(FACE));
        for (String name : hidden) {
            ask(name + " is no public name", !Arrays.asList(FACE.split("\\([a-z,]*\\) ?")).contains(name));
        }
        TreeSet<String> constants = new TreeSet<>();
        for (Field f : LevelVotes.class.getDeclaredFields()) {
            int m = f.getModifiers();
            if (!Modifier.isPrivate(m)) {
                constants.add(f.getName());
                ask(f + " is a constant", m == (Modifier.PUBLIC | Modifier.STATIC | Modifier.FINAL) && f.getType() == int.class);
            }
            ask(f + " is final if static", !Modifier.isStatic(m) || Modifier.isFinal(m));
        }
        ask("constants " + constants, constants.toString().equals("[FULL, NONE, NOT, OUTSIDE, UNKNOWN]"));
        due.is("NONE", LevelVotes.NONE, Due.NONE);
        due.is("UNKNOWN", LevelVotes.UNKNOWN, Due.UNKNOWN);
        due.is("OUTSIDE", LevelVotes.OUTSIDE, Due.OUTSIDE);
        due.is("NOT", LevelVotes.NOT, Due.NOT);
        due.is("FULL", LevelVotes.FULL, Due.FULL);
        Constructor<?>[] makers = LevelVotes.class.getDeclaredConstructors();
        ask("one public constructor", makers.length == 1 && makers[0].getModifiers() == Modifier.PUBLIC
                && makers[0].getParameterCount() == 0);
    }

    private static void nestedClasses() {
        Class<?>[] nested = LevelVotes.class.getDeclaredClasses();
        ask("some twelve classes at most", nested.length < 12);
        for (Class<?> c : nested) {
            ask(c + " is static and not public", Modifier.isStatic(c.getModifiers())
                    && !Modifier.isPublic(c.getModifiers()) && !Modifier.isProtected(c.getModifiers()));
            due.is(c + " has no class inside", c.getDeclaredClasses().length, 0);
            int fields = 0;
            for (Field f : c.getDeclaredFields()) {
                fields += Modifier.isStatic(f.getModifiers()) ? 0 : 1;
                ask(f + " is final if static", !Modifier.isStatic(f.getModifiers()) || Modifier.isFinal(f.getModifiers()));
            }
            ask(c + " has some twenty fields at most", fields <= 20);
            for (Method m : c.getDeclaredMethods()) {
                ask(m + " has at most seven parameters", m.getParameterCount() <= 7);
                ask(m + " bears no public name", !(" " + FACE).contains(" " + m.getName() + "("));
            }
        }
    }

    private static String withoutComments(String source) {
        return source.replaceAll("(?s)/\\*.*?\\*/", " ").replaceAll("//[^\n]*", " ");
    }

    private static void words(String code) {
        for (String word : new String[] {"throw", "throws", "try", "catch", "synchronized", "assert", "package", "native",
                "volatile", "transient", "while", "do", "var", "Object", "System", "Thread", "Random", "equals", "hashCode", "toString"}) {
            ask("no " + word, !Pattern.compile("\\b" + word + "\\b").matcher(code).find());
        }
        ask("no lambda", !code.contains("->"));
        ask("no method reference", !code.contains("::"));
        ask("no Exact", !code.contains("Exact"));
        ask("no text", !code.contains("\""));
        ask("signs 10, 32 to 126 alone", code.chars().allMatch(c -> c == 10 || c >= 32 && c < 127));
        ask("nothing is made but in fields and constructors", !madeInCalls(code));
    }

    /** Rows and objects are made with the object: a 'new' stands in a field's line or in a constructor. */
    private static boolean madeInCalls(String code) {
        for (String line : code.split("\n")) {
            boolean inField = line.matches("\\s+(private )?(final )?[A-Za-z\\[\\]]+ [a-zA-Z]+ = new [A-Za-z]+[\\[(].*");
            boolean inConstructor = line.matches("\\s+(images|past)\\[[ik]\\] = new (Image|Ballot)\\(\\);");
            if (line.matches(".*\\bnew\\b.*") && !inField && !inConstructor) {
                System.out.println(line);
                return true;
            }
        }
        return false;
    }

    private static void imports(String source) {
        Matcher m = Pattern.compile("(?m)^import (.*);$").matcher(source);
        while (m.find()) {
            ask("import " + m.group(1), m.group(1).equals("java.util.Arrays"));
        }
    }

    private static void methodLengths(String source) {
        String[] lines = source.split("\n");
        int from = -1;
        for (int k = 0; k < lines.length; k++) {
            if (lines[k].matches("(    |        )(public|private|static|int|boolean|void|[A-Z][a-zA-Z]*)[^=;]*\\) \\{")) {
                from = k;
            } else if (from >= 0 && lines[k].matches("(    |        )\\}") && lines[k].indexOf('}') == lines[from].length() - lines[from].stripLeading().length()) {
                ask(lines[from].strip() + " is short", k - from <= 60);
                from = -1;
            }
        }
    }
}
