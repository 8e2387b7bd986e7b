import java.lang.reflect.Constructor;
import java.lang.reflect.Field;
import java.lang.reflect.Method;
import java.lang.reflect.Modifier;
import java.nio.file.Files;
import java.nio.file.Path;
import java.util.ArrayList;
import java.util.Arrays;
import java.util.List;
import java.util.Set;
import java.util.TreeSet;

/** The public face, and those rules of LANGUAGE.md that can be seen without reading the program's sense. */
public final class FaceTests {
    static final String[] FACE = {
        "int append(int) IllegalArgumentException IllegalStateException",
        "int clearText()",
        "int errorPosition()",
        "int load() IllegalStateException",
        "int about(int) IllegalArgumentException",
        "int cardOf(int,int) IndexOutOfBoundsException IllegalArgumentException",
        "int suitOf(int,int,int) IndexOutOfBoundsException IllegalArgumentException",
        "int trick(int) IndexOutOfBoundsException",
        "int deal(long)",
        "int bid(int,int) IllegalArgumentException IllegalStateException",
        "int pass() IllegalStateException",
        "int play(int) IndexOutOfBoundsException IllegalStateException",
        "int undo() IllegalStateException",
        "int legal(int) IndexOutOfBoundsException",
        "int advice()",
        "int mayHave(int,int,int,boolean) IndexOutOfBoundsException IllegalArgumentException IllegalStateException",
        "int most(int) IllegalArgumentException IllegalStateException",
        "int bestCard() IllegalStateException",
        "int runScript(int,long) IllegalArgumentException",
        "int simulate(long,int) IllegalArgumentException",
        "int save(int) IndexOutOfBoundsException",
        "int restore(int) IndexOutOfBoundsException IllegalStateException",
    };

    static final Path SOURCE = Path.of("src/main/java/DropSignals.java");

    static int wrong = 0;

    static void must(boolean holds, String what) {
        if (!holds) {
            wrong++;
            System.out.println("not so: " + what);
        }
    }

    static String names(Class<?>[] types, String between) {
        List<String> names = new ArrayList<>();
        for (Class<?> type : types) {
            names.add(type.getSimpleName());
        }
        return String.join(between, names);
    }

    static void face() {
        Class<?> c = DropSignals.class;
        must(Modifier.isPublic(c.getModifiers()) && Modifier.isFinal(c.getModifiers()), "the class is public and final");
        Set<String> open = new TreeSet<>();
        Set<String> openNames = new TreeSet<>();
        for (Method m : c.getDeclaredMethods()) {
            if (!Modifier.isPrivate(m.getModifiers())) {
                must(Modifier.isPublic(m.getModifiers()) && !Modifier.isStatic(m.getModifiers()), m + " is of the face");
                open.add((m.getReturnType() + " " + m.getName() + "(" + names(m.getParameterTypes(), ",") + ") "
                    + names(m.getExceptionTypes(), " ")).trim());
                openNames.add(m.getName());
            }
        }
        must(open.equals(new TreeSet<>(Arrays.asList(FACE))), "the methods are those of the face: " + open);
        for (Constructor<?> k : c.getDeclaredConstructors()) {
            must(Modifier.isPublic(k.getModifiers()) && k.getParameterCount() == 0, "one public constructor");
        }
        for (Field f : c.getDeclaredFields()) {
            boolean isFace = f.getName().equals("NONE");
            must(isFace == Modifier.isPublic(f.getModifiers()) && isFace != Modifier.isPrivate(f.getModifiers()), "the field " + f);
        }
        checkNames(c, openNames);
        for (Class<?> inside : c.getDeclaredClasses()) {
            must(Modifier.isStatic(inside.getModifiers()), inside + " is static");
            checkNames(inside, openNames);
        }
    }

    static void checkNames(Class<?> c, Set<String> openNames) {
        for (Method m : c.getDeclaredMethods()) {
            must(Modifier.isPublic(m.getModifiers()) || !openNames.contains(m.getName()), m + " bears the name of a public one");
            must(m.getParameterCount() <= 7, m + " takes at most seven parameters");
        }
        int fields = 0;
        for (Field f : c.getDeclaredFields()) {
            boolean isStatic = Modifier.isStatic(f.getModifiers());
            must(!isStatic || Modifier.isFinal(f.getModifiers()), f + " is final");
            fields += isStatic ? 0 : 1;
        }
        must(fields <= 20, c + " has some twenty fields");
    }

    static void source() throws Exception {
        String source = Files.readString(SOURCE);
        for (int i = 0; i < source.length(); i++) {
            must(source.charAt(i) < 128, "plain signs at " + i);
        }
        String[] forbidden = {"Exact(", "->", "::", "catch", "finally", "synchronized", "assert ", "instanceof", "System.nano",
            "System.current", "System.out", "Random", "Thread", "package ", "\" +", "+ \"", ".getMessage", "native ", "double", "float"};
        for (String word : forbidden) {
            must(!source.contains(word), "the program does without " + word);
        }
        int imports = source.split("\nimport |^import ").length - 1;
        must(imports == 1 && source.contains("import java.util.Arrays;"), "java.util.Arrays alone is imported");
        // Objects are made in constructors and field initialisers alone, but for exceptions.
        for (String line : source.split("\n")) {
            boolean makes = line.contains("new ") && !line.contains("throw new ");
            must(!makes || line.contains(" final ") || line.contains("states[i] = new Evening()"), "no object is made in: " + line.trim());
        }
    }

    /** The document's calls in its order, each group behind what the interface says ahead of it. */
    static void groups() throws Exception {
        String[] headings = {"text", "what there is", "actions",
            "what would be; these and all following methods up to the save slots change nothing", "scripts, simulations", "save slots"};
        int[] firsts = {0, 4, 8, 13, 18, 20};
        List<String> want = new ArrayList<>();
        for (int i = 0, group = 0; i < FACE.length; i++) {
            if (group < firsts.length && firsts[group] == i) {
                want.add("---- " + headings[group]);
                group++;
            }
            want.add(FACE[i].substring(4, FACE[i].indexOf('(')));
        }
        List<String> got = new ArrayList<>();
        for (String line : Files.readAllLines(SOURCE)) {
            if (line.startsWith("    // ---- ") && got.size() < want.size()) {
                got.add(line.substring(7));
            } else if (line.startsWith("    public int ")) {
                got.add(line.substring(15, line.indexOf('(')));
            }
        }
        must(got.equals(want), "the groups of the face are in their order: " + got);
    }

    /** Rules 9, 11 and 12: what can be counted in the source, which is indented by four blanks. */
    static void sizes() throws Exception {
        int classes = 0;
        int begun = 0;
        String name = "";
        int number = 0;
        for (String line : Files.readAllLines(SOURCE)) {
            number++;
            String text = line.trim();
            int depth = (line.length() - line.stripLeading().length()) / 4;
            classes += text.contains(" class ") && text.endsWith("{") ? 1 : 0;
            if (depth > 0 && depth < 3 && text.endsWith("{") && !text.contains(" class ") && begun == 0) {
                begun = number;
                name = line;
            } else if (text.equals("}") && begun > 0 && line.indexOf('}') == name.length() - name.stripLeading().length()) {
                must(number - begun < 60, "the method is short: " + name.trim());
                begun = 0;
            }
            must(!text.contains("while (true)") && !text.contains("for (;;)"), "the loop has an end: " + text);
        }
        must(classes > 1 && classes <= 12, "the file has at most some twelve classes: " + classes);
    }

    public static void main(String[] args) throws Exception {
        face();
        source();
        groups();
        sizes();
        System.out.println("face and language: " + wrong + " wrong");
        if (wrong != 0) {
            System.exit(1);
        }
    }
}
