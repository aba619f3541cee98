import java.io.IOException;
import java.lang.reflect.Field;
import java.lang.reflect.Member;
import java.lang.reflect.Method;
import java.lang.reflect.Modifier;
import java.nio.file.Files;
import java.nio.file.Path;
import java.util.ArrayList;
import java.util.Arrays;
import java.util.List;
import java.util.Set;
import java.util.TreeSet;
import java.util.regex.Matcher;
import java.util.regex.Pattern;

/** The rules of ../shared/LANGUAGE.md that can be seen from the file itself. */
public final class LanguageTest {
    private static final Set<String> FACE = new TreeSet<>(List.of("letter/3", "rank/2", "rack/2", "feed/5", "law/1", "order/1",
        "letterIs/2", "at/1", "goes/1", "tried/2", "out/0", "forAny/2", "runs/1", "plan/0", "planned/2", "planDone/0", "tables/3",
        "table/4", "yardQueues/0", "yardPipes/0", "yard/2", "together/1", "blunder/5", "badly/2", "clerks/1", "wanted/1", "seed/1",
        "shuffle/0", "keep/0", "undo/0", "check/1", "count/1"));
    private static int faults = 0;

    private static void due(boolean good, String rule) {
        if (!good) {
            faults++;
            System.out.println(rule);
        }
    }

    public static void main(String[] args) throws IOException {
        String text = Files.readString(Path.of("src/main/java/NineHoles.java"));
        String code = text.replaceAll("(?s)/\\*.*?\\*/", "").replaceAll("//[^\n]*", "");
        String bare = code.replaceAll("'\\\\?.'", "0").replaceAll("\"[^\"]*\"", "0");
        face();
        inside();
        words(bare);
        lengths(bare.split("\n"));
        room(bare.split("\n"));
        due(text.chars().allMatch(c -> c == '\n' || c >= 32 && c < 127), "rule 4: plain signs alone");
        System.out.println("LanguageTest: " + faults + " faults");
        if (faults > 0) System.exit(1);
    }

    private static void face() {
        Set<String> found = new TreeSet<>();
        for (Method m : NineHoles.class.getDeclaredMethods()) {
            if (Modifier.isPrivate(m.getModifiers()) || m.isSynthetic()) continue;
            due(Modifier.isPublic(m.getModifiers()), "rule 1: " + m);
            found.add(m.getName() + "/" + m.getParameterCount());
        }
        due(found.equals(FACE), "rule 1: the face is " + found);
        for (Field f : NineHoles.class.getDeclaredFields()) due(f.getName().equals("NONE") || Modifier.isPrivate(f.getModifiers()), "rule 1: " + f);
        due(NineHoles.class.getConstructors().length == 1 && NineHoles.class.getDeclaredConstructors().length == 1, "rule 1: constructors");
    }

    private static void inside() {
        Class<?>[] classes = NineHoles.class.getDeclaredClasses();
        due(classes.length + 1 <= 12, "rule 11: classes");
        List<Class<?>> all = new ArrayList<>(Arrays.asList(classes));
        all.add(NineHoles.class);
        for (Class<?> c : all) {
            int fields = 0;
            due(c == NineHoles.class || Modifier.isStatic(c.getModifiers()), "rule 2: " + c);
            due(c.getDeclaredClasses().length == 0 || c == NineHoles.class, "rule 2: " + c);
            for (Field f : c.getDeclaredFields()) {
                boolean isStatic = Modifier.isStatic(f.getModifiers());
                due(!isStatic || Modifier.isFinal(f.getModifiers()), "rule 5: " + f);
                if (!isStatic) fields++;
            }
            due(fields <= 20, "rule 11: fields of " + c);
            for (Method m : c.getDeclaredMethods()) {
                due(m.getParameterCount() <= 7, "rule 11: " + m);
                due(!Modifier.isPrivate(m.getModifiers()) || FACE.stream().noneMatch(n -> n.startsWith(m.getName() + "/")), "rule 1: " + m);
                due(!Set.of("equals", "hashCode", "toString").contains(m.getName()), "rule 6: " + m);
            }
        }
    }

    private static void words(String code) {
        String[] words = {"throw", "throws", "try", "catch", "finally", "synchronized", "assert", "instanceof", "protected", "volatile",
            "transient", "native", "strictfp", "var", "yield", "Object", "Exception", "Thread", "Random", "HashMap", "record"};
        for (String w : words) due(!Pattern.compile("\\b" + w + "\\b").matcher(code).find(), "word: " + w);
        for (String w : new String[] {"->", "::", "for (;;)", "while (true)", "Exact("}) due(!code.contains(w), "sign: " + w);
        Matcher imports = Pattern.compile("import ([^;]*);").matcher(code);
        while (imports.find()) due(imports.group(1).equals("java.util.Arrays"), "rule 4: import " + imports.group(1));
        Set<String> library = Set.of("System.arraycopy", "Arrays.fill", "Math.min", "Math.max", "Math.abs");
        Matcher calls = Pattern.compile("\\b(System|Arrays|Math|Integer|Long|String|Character)\\.(\\w+)").matcher(code);
        while (calls.find()) due(library.contains(calls.group()), "rule 4: " + calls.group());
    }

    /** What all calls make lies in one room: so nothing is made but in fields, when the object is made. */
    private static void room(String[] lines) {
        Pattern field = Pattern.compile("^(    |        )(private )?(final )?[\\w\\[\\]]+ \\w+ = new .*;$");
        for (String line : lines) due(!line.contains("new ") || field.matcher(line).matches(), "made in a call: " + line.trim());
    }

    private static void lengths(String[] lines) {
        Pattern head = Pattern.compile("^(    |        )(?! |if |for |while |switch )[\\w\\[\\] ]+\\([^)]*\\) \\{$");
        for (int i = 0; i < lines.length; i++) {
            due(lines[i].length() <= 130, "a long line: " + (i + 1));
            Matcher m = head.matcher(lines[i]);
            if (!m.matches()) continue;
            int end = i;
            while (end < lines.length && !lines[end].equals(m.group(1) + "}")) end++;
            due(end - i < 60, "rule 11: " + lines[i].trim());
        }
    }
}
