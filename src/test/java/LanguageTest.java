import java.lang.reflect.Constructor;
import java.lang.reflect.Field;
import java.lang.reflect.Method;
import java.lang.reflect.Modifier;
import java.nio.file.Files;
import java.nio.file.Path;
import java.util.Arrays;
import java.util.List;
import java.util.Random;
import java.util.TreeSet;
import java.util.regex.Matcher;
import java.util.regex.Pattern;

/** Signs of what LANGUAGE.md rules out, the face as the document has it, and that no call throws whatever it is given. */
public final class LanguageTest {
    private static final Checks checks = new Checks();
    private static final int[] ODD = {Integer.MIN_VALUE, -101, -2, -1, 0, 1, 2, 3, 5, 9, 15, 16, 20, 60, 99999, Integer.MAX_VALUE};
    private static final String FACE = "act best cameIn chain charter claim cost count days digest doubt element feed few filled "
        + "form forms freed from keep law list lost mother never ofCharter pairs path price put redo row same shift slip taken "
        + "trace tree undo unlist";

    public static void main(String[] args) throws Exception {
        source();
        face();
        faceTypes();
        classesInside();
        oddCalls();
        checks.end();
    }

    private static void source() throws Exception {
        String text = Files.readString(Path.of("src/main/java/MotherTowns.java"));
        for (char sign : text.toCharArray()) {
            checks.due("a sign above 126", sign > 126 ? 1 : 0, 0);
        }
        String code = text.replaceAll("(?s)/\\*.*?\\*/", "").replaceAll("//[^\n]*", "");
        String[] out = {"\\bthrows?\\b", "\\btry\\b", "\\bcatch\\b", "\\bsynchronized\\b", "\\bassert\\b", "->", "::", "@",
            "\\bprotected\\b", "\\bObject\\b", "Exact\\(", "\\bSystem\\.(?!arraycopy)", "static\\s*\\{", "\\bpackage\\b",
            "\\.equals\\(", "\\bvar\\b", "\\bRandom\\b", "\\bThread\\b", "\\bdouble\\b", "\\bfloat\\b"};
        for (String pattern : out) {
            checks.due("in the source: " + pattern, Pattern.compile(pattern).matcher(code).find() ? 1 : 0, 0);
        }
        Matcher imports = Pattern.compile("import ([^;]+);").matcher(code);
        while (imports.find()) {
            boolean allowed = List.of("java.util.Arrays", "java.util.ArrayList", "java.util.List").contains(imports.group(1));
            checks.due("import " + imports.group(1), allowed ? 1 : 0, 1);
        }
        int classes = code.split("\\bclass\\b").length - 1;
        checks.due("some twelve classes: " + classes, classes <= 12 ? 1 : 0, 1);
        shortMethods(code);
    }

    private static void shortMethods(String code) {
        int depth = 0, start = 0, line = 0;
        boolean open = false;
        for (String row : code.split("\n")) {
            line++;
            if (!open && row.matches(".*\\) \\{") && row.matches("\\s{4,8}[a-zA-Z].*") && !row.contains("class ")) {
                open = true;
                start = line;
                depth = row.indexOf(row.trim());
            } else if (open && row.equals(" ".repeat(depth) + "}")) {
                open = false;
                checks.due("a method of more than sixty lines at " + start, line - start > 60 ? 1 : 0, 0);
            }
        }
    }

    private static void face() {
        Class<?> all = MotherTowns.class;
        TreeSet<String> names = new TreeSet<>();
        for (Method m : all.getDeclaredMethods()) {
            if (Modifier.isPublic(m.getModifiers())) {
                checks.due(m.getName() + " told twice", names.add(m.getName()) ? 1 : 0, 1);
            } else {
                checks.due(m.getName() + " is private", Modifier.isPrivate(m.getModifiers()) || m.isSynthetic() ? 1 : 0, 1);
                checks.due(m.getName() + " is no name of the face", List.of(FACE.split(" ")).contains(m.getName()) ? 1 : 0, 0);
            }
        }
        checks.due("the face: " + names, names.equals(new TreeSet<>(List.of(FACE.split(" ")))) ? 1 : 0, 1);
        for (Field f : all.getDeclaredFields()) {
            boolean constant = List.of("BAD", "NOT", "FULL", "STATE", "VOID").contains(f.getName());
            int want = constant ? Modifier.PUBLIC | Modifier.STATIC | Modifier.FINAL : Modifier.PRIVATE;
            checks.due("field " + f.getName(), f.getModifiers() & want, want);
        }
        Constructor<?>[] made = all.getConstructors();
        checks.due("constructors", made.length, 1);
        checks.due("without arguments", made[0].getParameterCount(), 0);
    }

    private static final String INT_FACE = "feed 2, charter 0, lost 0, ofCharter 2, form 3, forms 4, price 2, same 3, mother 2, cost 1, "
        + "filled 2, days 2, list 1, unlist 0, best 1, tree 2, never 1, claim 1, few 1, from 2, pairs 1, freed 0, doubt 1, law 2, "
        + "cameIn 2, slip 2, chain 2, undo 0, redo 0, digest 0, path 2, act 3, trace 1, keep 2, row 3, put 3, element 2, shift 5, "
        + "taken 2, count 1";

    /** Rule 1: all arguments and answers are ints, but put's value and element's answer. */
    private static void faceTypes() throws Exception {
        for (String told : INT_FACE.split(", ")) {
            String name = told.split(" ")[0];
            Class<?>[] types = new Class<?>[Integer.parseInt(told.split(" ")[1])];
            Arrays.fill(types, int.class);
            if (name.equals("put")) {
                types[2] = long.class;
            }
            Method m = MotherTowns.class.getDeclaredMethod(name, types);
            checks.due(name + " is public, and no more", m.getModifiers(), Modifier.PUBLIC);
            checks.due(name + "'s answer", m.getReturnType() == (name.equals("element") ? long.class : int.class) ? 1 : 0, 1);
        }
        checks.due("public and final", MotherTowns.class.getModifiers() & (Modifier.PUBLIC | Modifier.FINAL), Modifier.PUBLIC | Modifier.FINAL);
        String[] constants = {"BAD -1", "NOT -2", "FULL -3", "STATE -5", "VOID -2000000000"};
        for (String constant : constants) {
            Field f = MotherTowns.class.getDeclaredField(constant.split(" ")[0]);
            checks.due(constant, f.getModifiers(), Modifier.PUBLIC | Modifier.STATIC | Modifier.FINAL);
            checks.due(constant, f.getInt(null), Integer.parseInt(constant.split(" ")[1]));
        }
    }

    /** Rules 1 to 5 and 11: classes inside are static and hidden, few fields of plain types, few parameters. */
    private static void classesInside() {
        Class<?>[] inside = MotherTowns.class.getDeclaredClasses();
        List<Class<?>> all = new java.util.ArrayList<>(List.of(inside));
        all.add(MotherTowns.class);
        for (Class<?> one : all) {
            String name = one.getSimpleName();
            if (one != MotherTowns.class) {
                checks.due(name + " is static", one.getModifiers() & Modifier.STATIC, Modifier.STATIC);
                checks.due(name + " is hidden", one.getModifiers() & (Modifier.PUBLIC | Modifier.PROTECTED), 0);
                checks.due(name + " holds no class", one.getDeclaredClasses().length, 0);
            }
            int fields = 0;
            for (Field f : one.getDeclaredFields()) {
                boolean fixed = Modifier.isStatic(f.getModifiers());
                fields += fixed ? 0 : 1;
                checks.due(name + "." + f.getName() + ": static is final", fixed && !Modifier.isFinal(f.getModifiers()) ? 1 : 0, 0);
                Class<?> type = f.getType().isArray() ? f.getType().getComponentType() : f.getType();
                boolean plain = List.of(int.class, long.class, boolean.class).contains(type) || !fixed && all.contains(type);
                checks.due(name + "." + f.getName() + ": a plain type", plain ? 1 : 0, 1);
            }
            checks.due(name + ": some twenty fields: " + fields, fields <= 20 ? 1 : 0, 1);
            for (Method m : one.getDeclaredMethods()) {
                checks.due(name + "." + m.getName() + ": parameters", m.getParameterCount() <= 7 ? 1 : 0, 1);
                boolean ofFace = one != MotherTowns.class && List.of(FACE.split(" ")).contains(m.getName());
                checks.due(name + "." + m.getName() + " bears a name of the face", ofFace ? 1 : 0, 0);
            }
        }
    }

    /** Odd arguments in states of all kinds; what is thrown ends the test. */
    private static void oddCalls() throws Exception {
        Method[] calls = Arrays.stream(MotherTowns.class.getDeclaredMethods())
            .filter(m -> Modifier.isPublic(m.getModifiers()))
            .sorted((a, b) -> a.getName().compareTo(b.getName())).toArray(Method[]::new);
        for (int seed = 0; seed < 150; seed++) {
            Random r = new Random(seed);
            MotherTowns x = new MotherTowns();
            for (int i = 0; i < 4000; i++) {
                Method call = calls[r.nextInt(calls.length)];
                Class<?>[] types = call.getParameterTypes();
                Object[] args = new Object[types.length];
                for (int k = 0; k < args.length; k++) {
                    int v = r.nextInt(4) == 0 ? ODD[r.nextInt(ODD.length)] : r.nextInt(seed % 2 == 0 ? 4 : 12);
                    args[k] = types[k] == long.class ? (Object) (long) v : (Object) v;
                }
                call.invoke(x, args);
            }
        }
    }
}
