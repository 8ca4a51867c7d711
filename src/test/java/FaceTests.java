import java.lang.reflect.Constructor;
import java.lang.reflect.Field;
import java.lang.reflect.Method;
import java.lang.reflect.Modifier;
import java.nio.file.Files;
import java.nio.file.Path;
import java.util.ArrayList;
import java.util.List;
import java.util.TreeSet;
import java.util.regex.Matcher;
import java.util.regex.Pattern;

/** The face is the document's and no more, and the source keeps to the rules of LANGUAGE.md that can be looked up. */
public final class FaceTests {
    private static final String[] FACE = {"stone 2", "stoneTold 2", "move 3", "deed 3", "deedTold 2", "set 3", "call 3",
        "told 3", "as 3", "turns 3", "drop 2", "deal 2", "seed 1", "corner 3", "gap 1", "area 1", "holds 2", "field 1",
        "over 2", "whose 1", "owned 1", "slip 2", "best 2", "learn 1", "near 2", "would 3", "feed 3", "trim 1", "text 0",
        "textTold 2", "why 1", "sheet 3", "mark 3", "pour 2", "reads 2", "copy 5", "lay 3", "ask 2", "item 2", "rest 2",
        "tell 1", "check 1", "keep 0", "back 0", "count 1"};
    private static final String[] CONSTANTS = {"BAD -1000000001", "NO -1000000002", "FULL -1000000003",
        "NONE -1000000005", "NOTHING -1000000011", "KIND -1000000012", "INDEX -1000000013", "SIZE -1000000014"};

    private static final Path DOCUMENT = Path.of("../shared/DOC.md");
    private static final int HEADINGS = 7;

    private static int wrong = 0;

    private static void due(boolean holds, String what) {
        if (!holds) {
            wrong++;
            System.out.println(what);
        }
    }

    public static void main(String[] args) throws Exception {
        String source = Files.readString(Path.of("src/main/java/OakDeeds.java"));
        faceIsTheDocuments();
        faceStandsAsInTheDocument(source);
        classesKeepToRules();
        sourceKeepsToRules(source);
        System.out.println(wrong == 0 ? "the face and the rules are kept" : wrong + " rules are not kept");
        if (wrong != 0) {
            System.exit(1);
        }
    }

    private static void faceIsTheDocuments() throws Exception {
        Class<?> oak = OakDeeds.class;
        due(Modifier.isPublic(oak.getModifiers()) && Modifier.isFinal(oak.getModifiers()), "not public and final");
        List<String> methods = new ArrayList<>();
        TreeSet<String> publicNames = new TreeSet<>();
        TreeSet<String> privateNames = new TreeSet<>();
        for (Method m : oak.getDeclaredMethods()) {
            if (Modifier.isPrivate(m.getModifiers())) {
                privateNames.add(m.getName());
                continue;
            }
            publicNames.add(m.getName());
            methods.add(m.getName() + " " + m.getParameterCount());
            due(m.getReturnType() == int.class && m.getModifiers() == Modifier.PUBLIC, m + " is not plainly public int");
            for (Class<?> p : m.getParameterTypes()) {
                due(p == int.class, m + " takes another thing than int");
            }
        }
        due(new TreeSet<>(methods).equals(new TreeSet<>(List.of(FACE))), "methods are " + methods);
        due(methods.size() == FACE.length, "as many methods as the document has");
        for (Class<?> inner : oak.getDeclaredClasses()) {
            for (Method m : inner.getDeclaredMethods()) {
                privateNames.add(m.getName());
            }
        }
        privateNames.retainAll(publicNames);
        due(privateNames.isEmpty(), "names of public methods borne by others: " + privateNames);
        List<String> constants = new ArrayList<>();
        for (Field f : oak.getDeclaredFields()) {
            if (!Modifier.isPrivate(f.getModifiers())) {
                constants.add(f.getName() + " " + f.getInt(null));
                due(f.getModifiers() == (Modifier.PUBLIC | Modifier.STATIC | Modifier.FINAL), f + " is no constant");
            }
        }
        due(new TreeSet<>(constants).equals(new TreeSet<>(List.of(CONSTANTS))), "constants are " + constants);
        Constructor<?>[] made = oak.getDeclaredConstructors();
        due(made.length == 1 && made[0].getParameterCount() == 0, "one constructor without parameters");
        due(Modifier.isPublic(made[0].getModifiers()), "a public constructor");
    }

    /** The document's face, name by name and in its order, with what the interface says ahead of the calls. */
    private static void faceStandsAsInTheDocument(String source) throws Exception {
        if (!Files.isReadable(DOCUMENT)) {
            System.out.println(DOCUMENT + " can't be read: the face is not held against it");
            return;
        }
        String document = Files.readString(DOCUMENT);
        List<String> want = new ArrayList<>();
        Matcher method = Pattern.compile("    (public int (\\w+)\\([^)]*\\));").matcher(document);
        while (method.find()) {
            Matcher ahead = Pattern.compile("Ahead of the calls `" + method.group(2) + "`,.* says: (----.*)\\.")
                    .matcher(document);
            if (ahead.find()) {
                want.add("// " + ahead.group(1));
            }
            want.add(method.group(1));
        }
        List<String> got = new ArrayList<>();
        Matcher line = Pattern.compile("(?m)^    (// ----.*|public int \\w+\\([^)]*\\))(?: \\{)?$").matcher(source);
        while (line.find() && got.size() < want.size()) {
            got.add(line.group(1));
        }
        due(want.size() == FACE.length + HEADINGS, "the document has " + want.size() + " rows of its face");
        due(got.equals(want), "the face stands as " + got + ", due is " + want);
        Matcher constants = Pattern.compile("public static final int ([^;]*);").matcher(document);
        due(constants.find() && source.replaceAll("\\s+", " ").contains(constants.group()), "the constants' row");
    }

    private static void classesKeepToRules() {
        List<Class<?>> all = new ArrayList<>(List.of(OakDeeds.class.getDeclaredClasses()));
        due(all.size() <= 12, "rule 11: some twelve classes");
        for (Class<?> c : all) {
            due(Modifier.isStatic(c.getModifiers()), "rule 2: " + c + " is not static");
        }
        all.add(OakDeeds.class);
        for (Class<?> c : all) {
            int fields = 0;
            for (Field f : c.getDeclaredFields()) {
                boolean fixed = Modifier.isStatic(f.getModifiers());
                fields += fixed ? 0 : 1;
                due(!fixed || Modifier.isFinal(f.getModifiers()), "rule 5: " + f + " is static and not final");
            }
            due(fields <= 20, "rule 11: " + c + " has " + fields + " fields");
            for (Method m : c.getDeclaredMethods()) {
                due(m.getParameterCount() <= 7, "rule 11: " + m + " takes more than seven parameters");
            }
        }
    }

    private static void sourceKeepsToRules(String source) {
        String code = source.replaceAll("(?s)/\\*.*?\\*/", "").replaceAll("//[^\n]*", "");
        String bare = code.replaceAll("\"[^\"\n]*\"", "\"\"").replaceAll("'[^'\n]'", "' '");
        String[] words = {"throw", "throws", "try", "catch", "synchronized", "assert", "package", "record", "native",
            "Exception", "Object", "equals", "hashCode", "toString", "System\\.(?!arraycopy)", "Thread", "Random",
            "[a-zA-Z]+Exact", "double", "float", "->", "::"};
        for (String word : words) {
            Matcher m = Pattern.compile(Character.isLetter(word.charAt(0)) ? "\\b" + word + "\\b" : word).matcher(bare);
            due(!m.find(), "the source has " + word);
        }
        Matcher imports = Pattern.compile("import ([^;]*);").matcher(code);
        while (imports.find()) {
            due(imports.group(1).equals("java.util.Arrays"), "rule 4: import " + imports.group(1));
        }
        Matcher library = Pattern.compile("\\b(Arrays|Integer|Long|Math)\\.(\\w+)").matcher(code);
        while (library.find()) {
            due(List.of("fill", "bitCount", "abs", "min", "max", "floorDiv").contains(library.group(2)),
                    "rule 4: " + library.group());
        }
        methodsAreShort(source);
        due(source.chars().allMatch(c -> c == '\n' || c >= 32 && c < 127), "signs beyond 126");
    }

    private static void methodsAreShort(String source) {
        String[] lines = source.split("\n");
        int from = -1;
        String indent = "";
        for (int i = 0; i < lines.length; i++) {
            Matcher head = Pattern.compile("( {4}| {8})(?!\\s|return|else)[^=;]*\\(.*\\) \\{").matcher(lines[i]);
            if (from < 0 && head.matches()) {
                from = i;
                indent = head.group(1);
            } else if (from >= 0 && lines[i].equals(indent + "}")) {
                due(i - from <= 60, "rule 11: a long method at line " + (from + 1));
                from = -1;
            }
        }
    }
}
