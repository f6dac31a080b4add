import java.io.IOException;
import java.lang.reflect.Constructor;
import java.lang.reflect.Field;
import java.lang.reflect.Method;
import java.lang.reflect.Modifier;
import java.nio.file.Files;
import java.nio.file.Path;
import java.util.ArrayList;
import java.util.HashSet;
import java.util.List;
import java.util.Set;
import java.util.TreeSet;
import java.util.regex.Matcher;
import java.util.regex.Pattern;

/** What of LANGUAGE.md can be seen from the source's lines and the compiled classes' faces. */
public final class LanguageTest {
    private static final String[] FORBIDDEN = {"throw", "throws", "try", "catch", "finally", "synchronized", "assert",
        "enum", "record", "import", "package", "interface", "new Thread", "System.currentTimeMillis",
        "System.nanoTime", "Random", "Object", "hashCode", "toString", "equals", "yield", "var", "null", "protected"};
    private static final String FACE = "cell/2 door/2 letter/2 terms/2 feed/5 end/1 row/0 beads/0 law/0 orders/0 fault/0 "
        + "stopped/0 force/1 spill/2 raise/2 split/2 pass/0 undo/0 later/2 readWith/1 run/2 basin/1 meeting/2 delay/2 "
        + "apart/2 kerbs/3 springs/0 pools/0 longest/1 seen/2 forget/0 canBe/0 look/1 few/2 compare/2 days/2 drawn/2 "
        + "image/1 back/1 count/1 status/0";

    private final Checks checks = new Checks("LanguageTest");

    private LanguageTest() {
    }

    public static void main(String[] args) throws IOException {
        LanguageTest t = new LanguageTest();
        String path = System.getProperty("program.source", "src/main/java/MercuryPost.java");
        List<String> lines = Files.readAllLines(Path.of(path));
        t.words(lines);
        t.lengths(lines);
        t.callsMakeNothing(lines);
        t.face();
        t.inside();
        t.checks.end();
    }

    private void wrong(String what) {
        checks.due(what, 1, 0);
    }

    /** Without comments and texts in quotes. */
    private static String bare(String line) {
        String code = line.replaceAll("'(\\\\.|[^'])'", "' '").replaceAll("\"[^\"]*\"", "\"\"").replaceAll("//.*", "");
        String trimmed = code.trim();
        return trimmed.startsWith("*") || trimmed.startsWith("/*") ? "" : code;
    }

    private void words(List<String> lines) {
        for (int n = 0; n < lines.size(); n++) {
            String code = bare(lines.get(n));
            for (String word : FORBIDDEN) {
                if (Pattern.compile("\\b" + Pattern.quote(word) + "\\b").matcher(code).find()) {
                    wrong("line " + (n + 1) + " has " + word);
                }
            }
            if (code.contains("->") || code.contains("::") || code.contains("\"\" +") || code.contains("+ \"\"")) {
                wrong("line " + (n + 1) + " has a lambda, a reference or joined texts");
            }
            for (char sign : lines.get(n).toCharArray()) {
                if (sign > 127) {
                    wrong("line " + (n + 1) + " has a sign beyond 127");
                }
            }
        }
    }

    private void lengths(List<String> lines) {
        Pattern head = Pattern.compile("^( {4}| {8})(?!class)[a-zA-Z].*\\) \\{$");
        for (int n = 0; n < lines.size(); n++) {
            Matcher m = head.matcher(lines.get(n));
            if (!m.matches() || lines.get(n).matches("^ +(if|for|while|switch) .*")) {
                continue;
            }
            int end = n;
            while (!lines.get(end).equals(m.group(1) + "}")) {
                end++;
            }
            if (end - n > 60) {
                wrong("the method in line " + (n + 1) + " has " + (end - n) + " lines");
            }
        }
    }

    /** Every "new" stands in a field's initialiser or in a constructor. */
    private void callsMakeNothing(List<String> lines) {
        String head = "";
        Pattern method = Pattern.compile("^ {4,8}(?!new|return|if|for|while|switch)([a-zA-Z].*)?\\b(\\w+)\\(.*\\) \\{$");
        for (int n = 0; n < lines.size(); n++) {
            String code = bare(lines.get(n));
            Matcher m = method.matcher(code);
            if (m.matches()) {
                head = m.group(2);
            }
            boolean field = code.matches("^ +private (static )?(final )?[\\w\\[\\]]+ \\w+ = new .*");
            boolean inConstructor = !head.isEmpty() && Character.isUpperCase(head.charAt(0));
            if (code.matches(".*\\bnew\\b.*") && !field && !inConstructor) {
                wrong("line " + (n + 1) + " makes an object in a call");
            }
        }
    }

    private void face() {
        Set<String> due = new TreeSet<>(List.of(FACE.split(" ")));
        Set<String> got = new TreeSet<>();
        for (Method m : MercuryPost.class.getDeclaredMethods()) {
            if (!Modifier.isPrivate(m.getModifiers())) {
                got.add(m.getName() + "/" + m.getParameterCount());
                Class<?> type = m.getName().equals("few") ? long.class : int.class;
                if (m.getReturnType() != type || !Modifier.isPublic(m.getModifiers())) {
                    wrong("the type or the modifiers of " + m.getName());
                }
                for (Class<?> of : m.getParameterTypes()) {
                    if (of != int.class) {
                        wrong("a parameter of " + m.getName());
                    }
                }
            }
        }
        if (!got.equals(due)) {
            wrong("the face is " + got);
        }
        for (Field f : MercuryPost.class.getDeclaredFields()) {
            if (!Modifier.isPrivate(f.getModifiers()) && !f.getName().equals("NONE")) {
                wrong("the field " + f.getName() + " can be seen");
            }
        }
        Constructor<?>[] constructors = MercuryPost.class.getDeclaredConstructors();
        checks.due("constructors", constructors.length, 1);
        checks.due("it is public and final", MercuryPost.class.getModifiers(), Modifier.PUBLIC | Modifier.FINAL);
    }

    private void inside() {
        Set<String> publicNames = new HashSet<>();
        for (String one : FACE.split(" ")) {
            publicNames.add(one.substring(0, one.indexOf('/')));
        }
        List<Class<?>> classes = new ArrayList<>(List.of(MercuryPost.class.getDeclaredClasses()));
        classes.add(MercuryPost.class);
        if (classes.size() > 12) {
            wrong("there are " + classes.size() + " classes");
        }
        for (Class<?> c : classes) {
            if (!Modifier.isStatic(c.getModifiers()) && c != MercuryPost.class) {
                wrong(c + " is not static");
            }
            int fields = 0;
            for (Field f : c.getDeclaredFields()) {
                boolean isStatic = Modifier.isStatic(f.getModifiers());
                fields += isStatic ? 0 : 1;
                if (isStatic && !Modifier.isFinal(f.getModifiers())) {
                    wrong(c + "." + f.getName() + " is static and not final");
                }
            }
            if (fields > 20) {
                wrong(c + " has " + fields + " fields");
            }
            for (Method m : c.getDeclaredMethods()) {
                boolean hidden = c != MercuryPost.class || Modifier.isPrivate(m.getModifiers());
                if (hidden && publicNames.contains(m.getName())) {
                    wrong(c + "." + m.getName() + " bears a public one's name");
                }
                if (m.getParameterCount() > 7 || m.isSynthetic()) {
                    wrong(c + "." + m.getName() + " has too many parameters or was made by the compiler");
                }
            }
        }
    }
}
