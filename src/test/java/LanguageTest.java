import java.io.IOException;
import java.lang.management.ManagementFactory;
import java.lang.reflect.Constructor;
import java.lang.reflect.Field;
import java.lang.reflect.Method;
import java.lang.reflect.Modifier;
import java.nio.charset.StandardCharsets;
import java.nio.file.Files;
import java.nio.file.Path;
import java.util.Set;
import java.util.TreeSet;
import java.util.regex.Matcher;
import java.util.regex.Pattern;

/** The face of the document, and those rules of LANGUAGE.md that can be seen from outside or in the text. */
public final class LanguageTest {
    private static final Set<String> FACE = Set.of(
        "int feed(int,int,int,int,int)", "boolean end(int)", "int house()", "int fault(int)", "int has(int)",
        "int letter(boolean,int,int)", "int turn(int,int)", "int may(int,int)", "int due(int,int)",
        "long level(int,int,int)", "long gap(int,int)", "int stretch(int,int,boolean)", "long worst(int)", "int bars()",
        "int first()", "boolean set(int,int)", "boolean give(int,int)", "int step(int)", "int round(int)",
        "int block(int)", "int even(int,int,int)", "int cut(int)", "int least(int)", "int cycle(int)", "int swaps(int)",
        "int ended()", "int ill(int,int,int,long)", "int could(int)", "int behind(int)", "int owes(int,int)",
        "int meet(int,int)", "int meets(boolean)", "int image()", "int octet(int)", "boolean on()");
    private static final Set<String> IMPORTS = Set.of("java.util.Arrays", "java.util.ArrayList", "java.util.List",
        "java.util.Iterator");
    private static final Set<String> ARRAYS = Set.of("copyOf", "copyOfRange", "fill");
    /** The least that the room's 7.3 million fields and elements take, in bytes. */
    private static final long ROOM = 7300000L * 4;
    private static int wrong = 0;

    private LanguageTest() {
    }

    private static void must(boolean holds, String what) {
        if (!holds) {
            wrong++;
            System.out.println("not kept: " + what);
        }
    }

    private static String told(Method method) {
        StringBuilder text = new StringBuilder(method.getReturnType() + " " + method.getName() + "(");
        for (Class<?> type : method.getParameterTypes()) {
            text.append(text.charAt(text.length() - 1) == '(' ? "" : ",").append(type);
        }
        return text.append(")").toString();
    }

    private static void checkFace() {
        Class<EvenRota> type = EvenRota.class;
        must(type.getModifiers() == (Modifier.PUBLIC | Modifier.FINAL), "the class is public and final");
        Set<String> seen = new TreeSet<>();
        for (Method method : type.getDeclaredMethods()) {
            if (!Modifier.isPrivate(method.getModifiers())) {
                seen.add(told(method));
                must(method.getModifiers() == Modifier.PUBLIC, method.getName() + " is public alone");
            }
        }
        must(seen.equals(new TreeSet<>(FACE)), "the face: " + seen);
        for (Field field : type.getDeclaredFields()) {
            boolean none = field.getName().equals("NONE");
            must(none ? Modifier.isPublic(field.getModifiers()) : Modifier.isPrivate(field.getModifiers()), field.getName());
        }
        Constructor<?>[] constructors = type.getDeclaredConstructors();
        for (Constructor<?> constructor : constructors) {
            must(constructor.getParameterCount() == 0 ? Modifier.isPublic(constructor.getModifiers())
                : Modifier.isPrivate(constructor.getModifiers()), "one public constructor: " + constructor);
        }
    }

    private static void checkClass(Class<?> type, Set<String> names) {
        int fields = 0;
        for (Field field : type.getDeclaredFields()) {
            int modifiers = field.getModifiers();
            fields += Modifier.isStatic(modifiers) ? 0 : 1;
            must(!Modifier.isStatic(modifiers) || Modifier.isFinal(modifiers), "static " + field + " is final");
        }
        must(fields <= 24, "at most some twenty fields in " + type);
        for (Method method : type.getDeclaredMethods()) {
            must(method.getParameterCount() <= 7, "at most seven parameters: " + method);
            must(!Modifier.isPrivate(method.getModifiers()) || !names.contains(method.getName()),
                "no private method is called like one of the face: " + method);
        }
    }

    private static void checkClasses() {
        Set<String> names = new TreeSet<>();
        for (String told : FACE) {
            names.add(told.replaceAll("^\\w+ (\\w+)\\(.*", "$1"));
        }
        Class<?>[] inside = EvenRota.class.getDeclaredClasses();
        must(inside.length <= 13, "at most some twelve classes");
        checkClass(EvenRota.class, names);
        for (Class<?> type : inside) {
            int modifiers = type.getModifiers();
            must(Modifier.isStatic(modifiers) && !Modifier.isPublic(modifiers) && !Modifier.isProtected(modifiers),
                type + " is static, and private or package-visible");
            checkClass(type, names);
        }
    }

    private static void checkText(String source) {
        String code = source.replaceAll("(?s)/\\*.*?\\*/", "").replaceAll("//[^\n]*", "");
        String bare = code.replaceAll("\"[^\"\n]*\"", "\"\"").replaceAll("'[^'\n]'", "' '");
        for (String word : new String[] {"throw", "throws", "try", "catch", "finally", "synchronized", "assert", "package",
            "native", "Object"}) {
            must(!Pattern.compile("\\b" + word + "\\b").matcher(bare).find(), "no word " + word);
        }
        String noCases = bare.replaceAll("\\b(case [^;{}]*?|default )->", "");
        must(!noCases.contains("->") && !noCases.contains("::"), "no lambda, no method reference");
        must(!bare.contains("\" +") && !bare.contains("+ \""), "no texts joined by +");
        must(!bare.contains("static {"), "no static initialiser");
        Matcher imports = Pattern.compile("import ([^;]*);").matcher(bare);
        while (imports.find()) {
            must(IMPORTS.contains(imports.group(1)), "import " + imports.group(1));
        }
        Matcher calls = Pattern.compile("\\b(Arrays|System|Math|Integer|Long|String)\\.(\\w+)\\(").matcher(bare);
        while (calls.find()) {
            must(isInLibrary(calls.group(1), calls.group(2)), calls.group());
        }
        must(source.chars().allMatch(sign -> sign > 0 && sign < 128), "signs 1 to 127");
    }

    private static boolean isInLibrary(String type, String method) {
        switch (type) {
            case "System":
                return method.equals("arraycopy");
            case "Arrays":
                return ARRAYS.contains(method);
            case "String":
                return false;
            default:
                return !method.endsWith("Exact") && !method.matches("random|valueOf|decode|parse.*|to.*String|getInteger|getLong");
        }
    }

    private static void checkLengths(String source) {
        String name = "";
        int lines = 0;
        for (String line : source.split("\n")) {
            if (line.matches("( {4}| {8})(public|private) [^=;]*\\) \\{")) {
                name = line.trim();
                lines = 0;
            }
            lines++;
            if (line.matches("( {4}| {8})\\}")) {
                must(lines <= 70 || name.isEmpty(), "at most some sixty lines: " + name);
                name = "";
            }
        }
    }

    /** A run of 512 calls, the dearest ones among them. */
    private static int runLong(EvenRota rota, byte[] house) {
        int answers = 0;
        Feeding.put(rota, house);
        rota.house();
        for (int n = 0; n < 60; n++) {
            answers += rota.step(n) + rota.swaps(20) + rota.even(0, 720720, 720720) + rota.least(0) + rota.cycle(48)
                + rota.ill(n % 4, 0, 5, 1441440) + rota.image() + rota.meets(true);
        }
        return answers;
    }

    private static void checkRoom() {
        if (!(ManagementFactory.getThreadMXBean() instanceof com.sun.management.ThreadMXBean)) {
            return;
        }
        com.sun.management.ThreadMXBean threads = (com.sun.management.ThreadMXBean) ManagementFactory.getThreadMXBean();
        byte[] house = ("days 100;person a part 1 from 0 to 199;person b part 1 from 0 to 199;person c part 1 from 0 to 199;"
            + "person d part 1 from 0 to 199;kind k weighs 1;kind m weighs 1;turn k on all;turn m on all;rest k m 2;")
            .getBytes(StandardCharsets.ISO_8859_1);
        runLong(new EvenRota(), house);
        long before = threads.getThreadAllocatedBytes(Thread.currentThread().getId());
        runLong(new EvenRota(), house);
        long made = threads.getThreadAllocatedBytes(Thread.currentThread().getId()) - before;
        must(made < ROOM, "one run fits into the room: " + made + " bytes were made");
    }

    public static void main(String[] args) throws IOException {
        String path = args.length > 0 ? args[0] : "src/main/java/EvenRota.java";
        String source = Files.readString(Path.of(path));
        checkFace();
        checkClasses();
        checkText(source);
        checkLengths(source);
        checkRoom();
        System.out.println("LanguageTest: " + wrong + " not kept");
        System.exit(wrong == 0 ? 0 : 1);
    }
}
