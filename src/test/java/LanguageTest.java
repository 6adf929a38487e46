import java.io.IOException;
import java.lang.reflect.Field;
import java.lang.reflect.Method;
import java.lang.reflect.Modifier;
import java.nio.file.Files;
import java.nio.file.Path;
import java.util.ArrayList;
import java.util.Arrays;
import java.util.List;
import java.util.TreeSet;

/** The face of the document, and those rules of LANGUAGE.md that can be read off the class and its source. */
public final class LanguageTest {
    private static final Check CHECK = new Check("LanguageTest");

    private static final String FACE = "about(int) add(int) apart(int,int) back(int):boolean become(int,int) bound(int)"
        + " bytes() chosen(int) climb(int,int) climbOf(int,int) difference() differenceOf(int) drop(int) fault()"
        + " feed(int,int,int,int,int) find(int,int) flat(int) greedy(int,int) greedyOf(int,int) heaps(int)"
        + " image(int):boolean keepIn(int,int) least(int,int) leastOf(int,int) multi(int) multiOf(int,int) nearest(int)"
        + " number(int,int) octet(int) rows(int) search(int) searchOf(int) sized(int) sort() step(int,int) sums()"
        + " text(int) trouble() undo() ways(int) where() write()";

    public static void main(String[] args) throws IOException {
        face();
        classesInside();
        source(Files.readAllLines(Path.of("src/main/java/NumberHeaps.java")));
        CHECK.end();
    }

    private static void face() {
        TreeSet<String> seen = new TreeSet<>();
        for (Method m : NumberHeaps.class.getDeclaredMethods()) {
            if (Modifier.isPublic(m.getModifiers())) {
                StringBuilder said = new StringBuilder();
                for (Class<?> type : m.getParameterTypes()) {
                    said.append(said.length() == 0 ? "" : ",").append(type.getName());
                }
                String answer = m.getReturnType() == int.class ? "" : ":" + m.getReturnType();
                seen.add(m.getName() + "(" + said + ")" + answer);
            } else {
                CHECK.due("rule 1 private " + m.getName(), Modifier.isPrivate(m.getModifiers()), true);
            }
        }
        CHECK.due("the face " + seen, seen.equals(new TreeSet<>(Arrays.asList(FACE.split(" ")))), true);
        for (Field f : NumberHeaps.class.getDeclaredFields()) {
            boolean constant = f.getName().equals("NONE");
            CHECK.due("rule 1 " + f.getName(), Modifier.isPrivate(f.getModifiers()), !constant);
        }
        CHECK.due("rule 1 final", Modifier.isFinal(NumberHeaps.class.getModifiers()), true);
        CHECK.due("rule 1 constructors", NumberHeaps.class.getDeclaredConstructors().length, 1);
    }

    private static void classesInside() {
        List<Class<?>> all = new ArrayList<>(Arrays.asList(NumberHeaps.class.getDeclaredClasses()));
        CHECK.due("rule 11 classes", all.size() <= 11, true);
        all.add(NumberHeaps.class);
        TreeSet<String> open = new TreeSet<>();
        for (Method m : NumberHeaps.class.getMethods()) {
            open.add(m.getName());
        }
        for (Class<?> type : all) {
            boolean inside = type != NumberHeaps.class;
            CHECK.due("rule 1 static " + type, !inside || Modifier.isStatic(type.getModifiers()), true);
            int fields = 0;
            for (Field f : type.getDeclaredFields()) {
                boolean isStatic = Modifier.isStatic(f.getModifiers());
                fields += isStatic ? 0 : 1;
                CHECK.due("rule 5 " + f, !isStatic || Modifier.isFinal(f.getModifiers()), true);
            }
            CHECK.due("rule 11 fields of " + type + ": " + fields, fields <= 20, true);
            for (Method m : type.getDeclaredMethods()) {
                boolean face = type == NumberHeaps.class && Modifier.isPublic(m.getModifiers());
                CHECK.due("rule 1 name " + m, face || !open.contains(m.getName()), true);
                CHECK.due("rule 11 parameters " + m, m.getParameterCount() <= 7, true);
            }
        }
    }

    private static void source(List<String> lines) {
        String[] banned = {"synchronized", "assert ", "finally", "->", "::", "catch", "try {", "Exact(", "MAX_VALUE",
            "MIN_VALUE", "hashCode", "equals(", "toString", "System.out", "Thread", "static {", "goto", "@", "var "};
        int began = 0;
        for (int l = 0; l < lines.size(); l++) {
            String line = lines.get(l);
            String code = line.replaceAll("^\\s*(/\\*\\*|\\*|//).*$", "");
            for (String word : banned) {
                CHECK.due("line " + (l + 1) + " has " + word, code.contains(word), false);
            }
            CHECK.due("line " + (l + 1) + " is no plain text", line.matches("[ -~]*"), true);
            CHECK.due("line " + (l + 1) + " is long", line.length() <= 120, true);
            if (code.startsWith("import ")) {
                CHECK.due("rule 4 " + code, code.equals("import java.util.NoSuchElementException;"), true);
            }
            if (code.matches(" {4,8}[a-z].*\\) (throws \\w+ )?\\{")) {
                began = l;
            }
            if (code.matches(" {4,8}\\}")) {
                CHECK.due("rule 11 lines of the method that ends in line " + (l + 1), l - began <= 60
                    || code.equals("    }"), true);
            }
        }
    }
}
