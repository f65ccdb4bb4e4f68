import java.lang.reflect.Field;
import java.lang.reflect.InvocationTargetException;
import java.lang.reflect.Method;
import java.lang.reflect.Modifier;
import java.nio.file.Files;
import java.nio.file.Path;
import java.util.ArrayList;
import java.util.Arrays;
import java.util.List;
import java.util.Random;
import java.util.TreeSet;
import java.util.regex.Matcher;
import java.util.regex.Pattern;

/** What LANGUAGE.md asks of the file and can be looked at from outside; the rules by their numbers. */
public final class LanguageTests {
    private static final Path SOURCE = Path.of("src/main/java/PortraitRank.java");
    private static final Path DOCUMENT = Path.of("../shared/DOC.md");
    private static final String FACE = """
        int about(int)
        int again(int)
        int best(int)
        int cabman(int,int)
        int call(int)
        int clean(int)
        int fault()
        int finger(int,int)
        int givesUp(int)
        int hall()
        int judge(int,int)
        int keep(int)
        int longest(int)
        int night()
        int paint(int)
        int peace(int)
        int rests(int,int,int)
        int see(int,int,int,int)
        int send()
        int share(int,boolean)
        int strokes(int,int)
        int under(int,int)
        int undo()
        int unsee()
        int wet(int,int,boolean)
        int wipe()
        int write(int)
        int years(int)
        long seed(long)
        """;

    private static int wrong = 0;
    private static int looked = 0;

    public static void main(String[] args) throws Exception {
        face();
        faceOfTheDocument();
        constants();
        nestedClasses();
        staticFields();
        words();
        lengths();
        storm();
        System.out.println(looked + " things looked at, " + wrong + " wrong");
        if (wrong != 0) {
            System.exit(1);
        }
    }

    private static void hold(String what, boolean well) {
        looked++;
        if (!well) {
            wrong++;
            System.out.println("not so: " + what);
        }
    }

    private static List<Class<?>> classes() {
        List<Class<?>> all = new ArrayList<>(List.of(PortraitRank.class));
        all.addAll(Arrays.asList(PortraitRank.class.getDeclaredClasses()));
        return all;
    }

    /** Rule 1. */
    private static void face() {
        hold("1: the class is public and final", Modifier.isPublic(PortraitRank.class.getModifiers())
            && Modifier.isFinal(PortraitRank.class.getModifiers()));
        hold("1: one public constructor", PortraitRank.class.getDeclaredConstructors().length == 1
            && PortraitRank.class.getConstructors().length == 1);
        hold("1: it has no argument", PortraitRank.class.getConstructors()[0].getParameterCount() == 0);
        hold("1: nothing comes from above", PortraitRank.class.getSuperclass() == Object.class
            && PortraitRank.class.getInterfaces().length == 0);
        TreeSet<String> methods = new TreeSet<>();
        for (Method method : PortraitRank.class.getDeclaredMethods()) {
            if (!Modifier.isPrivate(method.getModifiers())) {
                hold("1: public, not static: " + method, method.getModifiers() == Modifier.PUBLIC);
                String parameters = Arrays.toString(Arrays.stream(method.getParameterTypes()).map(Class::getName).toArray());
                methods.add(method.getReturnType() + " " + method.getName() + "("
                    + parameters.substring(1, parameters.length() - 1).replace(" ", "") + ")");
            }
        }
        hold("1: the face is the document's: " + methods, methods.equals(new TreeSet<>(FACE.lines().toList())));
        List<String> names = FACE.lines().map(line -> line.replaceAll("^\\w+ |\\(.*", "")).toList();
        for (Class<?> one : classes()) {
            for (Method method : one.getDeclaredMethods()) {
                boolean open = one == PortraitRank.class && Modifier.isPublic(method.getModifiers());
                hold("1: a name of the face: " + method, open || !names.contains(method.getName()));
                hold("11: parameters of " + method, method.getParameterCount() <= 7);
            }
        }
    }

    /** That FACE is not only like the class, but was copied well. */
    private static void faceOfTheDocument() throws Exception {
        TreeSet<String> told = new TreeSet<>();
        Matcher heads = Pattern.compile("(?m)^ {4}public (int|long) (\\w+)\\((.*)\\);$").matcher(Files.readString(DOCUMENT));
        while (heads.find()) {
            String types = heads.group(3).replaceAll("(\\w+) \\w+", "$1").replace(" ", "");
            told.add(heads.group(1) + " " + heads.group(2) + "(" + types + ")");
        }
        hold("1: the document tells this face: " + told, told.equals(new TreeSet<>(FACE.lines().toList())));
    }

    private static void constants() throws IllegalAccessException {
        TreeSet<String> told = new TreeSet<>();
        for (Field field : PortraitRank.class.getDeclaredFields()) {
            if (!Modifier.isPrivate(field.getModifiers())) {
                told.add(field.getName() + field.getInt(null) + Modifier.toString(field.getModifiers()) + field.getType());
            }
        }
        String kind = "public static finalint";
        hold("1: the constants: " + told, told.equals(new TreeSet<>(List.of("UNKNOWN-1" + kind, "BAD-2" + kind,
            "LATE-3" + kind, "FULL-4" + kind, "NONE-9" + kind))));
    }

    /** Rules 2 and 11. */
    private static void nestedClasses() {
        hold("11: twelve classes at most", classes().size() <= 12);
        for (Class<?> one : PortraitRank.class.getDeclaredClasses()) {
            hold("2: static: " + one, Modifier.isStatic(one.getModifiers()));
            hold("1: not public: " + one, !Modifier.isPublic(one.getModifiers()) && !Modifier.isProtected(one.getModifiers()));
        }
        for (Class<?> one : classes()) {
            long fields = Arrays.stream(one.getDeclaredFields()).filter(f -> !Modifier.isStatic(f.getModifiers())).count();
            hold("11: fields of " + one, fields <= 20);
        }
    }

    /** Rule 5. */
    private static void staticFields() {
        for (Class<?> one : classes()) {
            for (Field field : one.getDeclaredFields()) {
                if (Modifier.isStatic(field.getModifiers())) {
                    hold("5: final and plain: " + field, Modifier.isFinal(field.getModifiers()) && field.getType().isPrimitive());
                }
            }
        }
    }

    private static String code() throws Exception {
        return Files.readString(SOURCE).replaceAll("(?s)/\\*.*?\\*/", "").replaceAll("//[^\n]*", "");
    }

    /** Rules 3, 4, 6 and 13, and that no call makes an object (12). */
    private static void words() throws Exception {
        String code = code();
        for (String word : "throw try catch finally synchronized assert double float Object System.out System.err System.nanoTime System.currentTimeMillis".split(" ")) {
            hold("6: no " + word, !Pattern.compile("\\b" + Pattern.quote(word) + "\\b").matcher(code).find());
        }
        for (String sign : new String[] {"->", "::", "Exact(", "package ", "\"", ".*;"}) {
            hold("no " + sign, !code.contains(sign));
        }
        hold("7: all signs are plain", code.chars().allMatch(sign -> sign == '\n' || sign >= 32 && sign < 127));
        Matcher imports = Pattern.compile("import ([^;]*);").matcher(code);
        while (imports.find()) {
            hold("4: import " + imports.group(1), imports.group(1).equals("java.util.Arrays"));
        }
        for (String line : code.lines().filter(line -> line.contains("new ")).toList()) {
            hold("12: made once: " + line, line.strip().matches("private final .* = new .*|this\\.cells = new .*"));
        }
    }

    /** Rule 11: a method's lines are those between its head and the brace that stands as deep. */
    private static void lengths() throws Exception {
        List<String> lines = code().lines().toList();
        for (int start = 0; start < lines.size(); start++) {
            Matcher head = Pattern.compile("( {4}| {8})[a-zA-Z].*\\) \\{").matcher(lines.get(start));
            if (head.matches() && !head.group().strip().matches("(if|for|while|switch).*")) {
                int end = lines.subList(start, lines.size()).indexOf(head.group(1) + "}");
                hold("11: length of " + head.group().strip(), end > 0 && end <= 60);
            }
        }
    }

    /** Rule 7: all calls in all sorts of states with all sorts of numbers; whatever is thrown, the machine threw it. */
    private static void storm() throws IllegalAccessException {
        Method[] methods = PortraitRank.class.getMethods();
        methods = Arrays.stream(methods).filter(m -> m.getDeclaringClass() == PortraitRank.class).toArray(Method[]::new);
        Arrays.sort(methods, (one, other) -> one.getName().compareTo(other.getName()));
        Random chance = new Random(20261117L);
        for (int run = 0; run < 300; run++) {
            PortraitRank x = new PortraitRank();
            for (int call = 0; call < 2000; call++) {
                if (call % 300 == 0) {
                    makeHall(x, chance);
                }
                Method method = methods[chance.nextInt(methods.length)];
                Object[] arguments = Arrays.stream(method.getParameterTypes()).map(type -> some(type, chance)).toArray();
                try {
                    method.invoke(x, arguments);
                } catch (InvocationTargetException thrown) {
                    hold("7: " + method + Arrays.toString(arguments) + " threw " + thrown.getCause(), false);
                }
            }
        }
        hold("7: the storm is over", true);
    }

    private static void makeHall(PortraitRank x, Random chance) {
        x.wipe();
        x.write('P');
        for (int layer = 0; layer < 12; layer++) {
            x.write('0' + chance.nextInt(3));
        }
        for (int cabman = chance.nextInt(6); cabman > 0; cabman--) {
            x.write('C');
            x.write('0' + chance.nextInt(4));
            x.write('1' + chance.nextInt(9));
            for (int finger = 0; finger < 4; finger++) {
                x.write('0' + (chance.nextBoolean() ? 3 : chance.nextInt(4)));
            }
        }
        x.hall();
    }

    private static Object some(Class<?> type, Random chance) {
        if (type == boolean.class) {
            return chance.nextBoolean();
        }
        if (type == long.class) {
            return chance.nextLong();
        }
        return switch (chance.nextInt(8)) {
            case 0 -> chance.nextInt();
            case 1 -> new int[] {Integer.MIN_VALUE, Integer.MAX_VALUE, -1, 48, 255, 2222, 99999999}[chance.nextInt(7)];
            case 2 -> chance.nextInt(2300);
            case 3 -> chance.nextInt(40);
            default -> chance.nextInt(6);
        };
    }
}
