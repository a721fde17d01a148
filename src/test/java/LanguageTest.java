import java.io.IOException;
import java.lang.reflect.Constructor;
import java.lang.reflect.Field;
import java.lang.reflect.Method;
import java.lang.reflect.Modifier;
import java.nio.file.Files;
import java.nio.file.Path;
import java.util.Set;
import java.util.TreeSet;
import java.util.regex.Matcher;
import java.util.regex.Pattern;

/** The face of the document, and those rules of LANGUAGE.md that can be seen from outside or in the text. */
public final class LanguageTest {
    private static final Set<String> FACE = Set.of(
        "int feed(int,int,int,int,int)", "boolean end(int)", "int house()", "int fault(int)", "int has(int)",
        "int letter(boolean,int,int)", "int turn(int,int)", "int may(int,int)", "int due(int,int)",
        "long level(int,int,int)", "long gap(int,int)", "int stretch(int,int,boolean)", "long worst(int)", "int bars()",
        "int first()", "boolean set(int,int)", "boolean give(int,int)", "int step(int)", "int round(int)",
        "int block(int)", "int even(int,int,int)", "int cut(int)", "int least(int)", "int cycle(int)", "int swaps(int)",
        "int ended()", "int ill(int,int,int,long)", "int could(int)", "int behind(int)", "int owes(int,int)",
        "int meet(int,int)", "int meets(boolean)", "int image()", "int octet(int)", "boolean on()");
    private static final Set<String> LIBRARY = Set.of("Arrays.fill", "System.arraycopy", "Math.max", "Math.min",
        "Math.floorDiv", "Math.floorMod");
    private static int wrong = 0;

    private LanguageTest() {
    }

    private static void must(boolean holds, String what) {
        if (!holds) {
            wrong++;
            System.out.println("not kept: " + what);
        }
    }

    private static String told(Method method) {
        StringBuilder text = new StringBuilder(method.getReturnType() + " " + method.getName() + "(");
        for (Class<?> type : method.getParameterTypes()) {
            text.append(text.charAt(text.length() - 1) == '(' ? "" : ",").append(type);
        }
        return text.append(")").toString();
    }

    private static void checkFace() {
        Class<EvenRota> type = EvenRota.class;
        must(type.getModifiers() == (Modifier.PUBLIC | Modifier.FINAL), "the class is public and final");
        Set<String> seen = new TreeSet<>();
        for (Method method : type.getDeclaredMethods()) {
            if (!Modifier.isPrivate(method.getModifiers())) {
                seen.add(told(method));
                must(method.getModifiers() == Modifier.PUBLIC, method.getName() + " is public alone");
            }
        }
        must(seen.equals(new TreeSet<>(FACE)), "the face: " + seen);
        for (Field field : type.getDeclaredFields()) {
            boolean none = field.getName().equals("NONE");
            must(none ? Modifier.isPublic(field.getModifiers()) : Modifier.isPrivate(field.getModifiers()), field.getName());
        }
        Constructor<?>[] constructors = type.getDeclaredConstructors();
        must(constructors.length == 1 && Modifier.isPublic(constructors[0].getModifiers())
            && constructors[0].getParameterCount() == 0, "one public constructor");
    }

    private static void checkClass(Class<?> type, Set<String> names) {
        int fields = 0;
        for (Field field : type.getDeclaredFields()) {
            int modifiers = field.getModifiers();
            fields += Modifier.isStatic(modifiers) ? 0 : 1;
            must(!Modifier.isStatic(modifiers) || Modifier.isFinal(modifiers), "static " + field + " is final");
        }
        must(fields <= 20, "at most twenty fields in " + type);
        for (Method method : type.getDeclaredMethods()) {
            must(method.getParameterCount() <= 7, "at most seven parameters: " + method);
            must(type == EvenRota.class && Modifier.isPublic(method.getModifiers()) || !names.contains(method.getName()),
                "no other method is called like one of the face: " + method);
        }
    }

    private static void checkClasses() {
        Set<String> names = new TreeSet<>();
        for (String told : FACE) {
            names.add(told.replaceAll("^\\w+ (\\w+)\\(.*", "$1"));
        }
        Class<?>[] inside = EvenRota.class.getDeclaredClasses();
        must(inside.length <= 11, "at most some twelve classes");
        checkClass(EvenRota.class, names);
        for (Class<?> type : inside) {
            must(Modifier.isStatic(type.getModifiers()) && Modifier.isPrivate(type.getModifiers()), type + " is private, static");
            checkClass(type, names);
        }
    }

    private static void checkText(String source) {
        String code = source.replaceAll("(?s)/\\*.*?\\*/", "").replaceAll("//[^\n]*", "");
        String bare = code.replaceAll("\"[^\"\n]*\"", "\"\"").replaceAll("'[^'\n]'", "' '");
        for (String word : new String[] {"throw", "throws", "try", "catch", "finally", "synchronized", "assert", "var",
            "volatile", "protected", "interface", "instanceof", "null", "package", "native", "double", "float", "Object"}) {
            must(!Pattern.compile("\\b" + word + "\\b").matcher(bare).find(), "no word " + word);
        }
        must(!bare.contains("->") && !bare.contains("::"), "no lambda, no method reference");
        must(!bare.contains("\" +") && !bare.contains("+ \""), "no texts joined by +");
        must(!bare.contains("static {"), "no static initialiser");
        Matcher imports = Pattern.compile("import ([^;]*);").matcher(bare);
        while (imports.find()) {
            must(imports.group(1).equals("java.util.Arrays"), "import " + imports.group(1));
        }
        Matcher calls = Pattern.compile("\\b(Arrays|System|Math|Integer|Long|String)\\.(\\w+)\\(").matcher(bare);
        while (calls.find()) {
            must(LIBRARY.contains(calls.group(1) + "." + calls.group(2)), calls.group());
        }
        must(source.chars().allMatch(sign -> sign > 0 && sign < 128), "signs 1 to 127");
        Matcher made = Pattern.compile("\\n {8,}[^\\n]*\\bnew \\w+").matcher(bare);
        while (made.find()) {
            must(made.group().contains("final") || made.group().matches("(?s)\\n {8}\\w+ = new \\w+"),
                "made in constructors alone: " + made.group().trim());
        }
    }

    private static void checkLengths(String source) {
        String name = "";
        int lines = 0;
        for (String line : source.split("\n")) {
            if (line.matches("( {4}| {8})(public|private) [^=;]*\\) \\{")) {
                name = line.trim();
                lines = 0;
            }
            lines++;
            if (line.matches("( {4}| {8})\\}")) {
                must(lines <= 60 || name.isEmpty(), "at most sixty lines: " + name);
                name = "";
            }
        }
    }

    public static void main(String[] args) throws IOException {
        String path = args.length > 0 ? args[0] : "src/main/java/EvenRota.java";
        String source = Files.readString(Path.of(path));
        checkFace();
        checkClasses();
        checkText(source);
        checkLengths(source);
        System.out.println("LanguageTest: " + wrong + " not kept");
        System.exit(wrong == 0 ? 0 : 1);
    }
}
