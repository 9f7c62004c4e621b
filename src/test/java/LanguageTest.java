import java.io.IOException;
import java.lang.reflect.Constructor;
import java.lang.reflect.Field;
import java.lang.reflect.Member;
import java.lang.reflect.Method;
import java.lang.reflect.Modifier;
import java.nio.file.Files;
import java.nio.file.Path;
import java.util.Arrays;
import java.util.List;
import java.util.Set;
import java.util.TreeSet;
import java.util.regex.Matcher;
import java.util.regex.Pattern;

/** The face of the class is the document's, and the source keeps to the rules of LANGUAGE.md that can be looked up. */
public final class LanguageTest {
    private static final Path SOURCE = Path.of("src/main/java/SumsThatTell.java");
    private static final List<String> FACE = List.of(
        "int person(int, int, int, int)", "int change(int, int)", "int ask(int, int, int, int)",
        "int would(int, int, int, int)", "boolean join(int, int)", "int knows(int, int, int)", "int tables(int)",
        "boolean broken(int)", "int tell(int, int)", "int asked(int, int)", "int wish(int, int, int)", "void clear()",
        "int most(int)", "boolean together(int, int)", "int count(int)", "boolean image(int)", "boolean again(int)");
    private static final String RULED_OUT = "throw|throws|try|catch|finally|synchronized|assert|package|var|yield|"
        + "hashCode|toString|equals|Object|System\\.(?!arraycopy)\\w+|Math\\.\\w+Exact|Random|Thread|Math\\.random|"
        + "->|::|double|float|static\\s*\\{";
    private static final String LIBRARY = "Arrays\\.(copyOf|copyOfRange|fill)|System\\.arraycopy|"
        + "(Math|Integer|Long)\\.(compare|max|min|abs|bitCount|floorDiv|floorMod|MAX_VALUE|MIN_VALUE|signum|"
        + "numberOfLeadingZeros|numberOfTrailingZeros|highestOneBit|lowestOneBit)";
    private static final int LONGEST_METHOD = 60;
    private static int wrong = 0;

    private static void fault(String text) {
        wrong++;
        System.out.println(text);
    }

    private static String textOf(Method m) {
        StringBuilder text = new StringBuilder(m.getReturnType().getName()).append(' ').append(m.getName()).append('(');
        for (int i = 0; i < m.getParameterCount(); i++) {
            text.append(i == 0 ? "" : ", ").append(m.getParameterTypes()[i].getName());
        }
        return text.append(')').toString();
    }

    private static boolean isPrivate(Member member) {
        return Modifier.isPrivate(member.getModifiers());
    }

    private static void face() {
        Class<?> face = SumsThatTell.class;
        if (face.getModifiers() != (Modifier.PUBLIC | Modifier.FINAL)) {
            fault("the class is not public and final alone");
        }
        Set<String> found = new TreeSet<>();
        for (Method m : face.getDeclaredMethods()) {
            if (!isPrivate(m)) {
                found.add(textOf(m));
            }
        }
        if (!found.equals(new TreeSet<>(FACE))) {
            fault("the methods are " + found);
        }
        Constructor<?>[] made = face.getDeclaredConstructors();
        if (made.length != 1 || made[0].getModifiers() != Modifier.PUBLIC || made[0].getParameterCount() != 0) {
            fault("the constructors are " + Arrays.toString(made));
        }
        for (Field f : face.getDeclaredFields()) {
            if (!isPrivate(f) && !f.getName().equals("NONE")) {
                fault("a field of the face: " + f);
            }
        }
    }

    private static void classesInside() {
        Set<String> publicNames = new TreeSet<>();
        for (String text : FACE) {
            publicNames.add(text.substring(text.indexOf(' ') + 1, text.indexOf('(')));
        }
        Class<?>[] inside = SumsThatTell.class.getDeclaredClasses();
        if (inside.length > 11) {
            fault("there are too many classes");
        }
        for (Class<?> c : inside) {
            if (!Modifier.isStatic(c.getModifiers()) || !Modifier.isPrivate(c.getModifiers())) {
                fault("not private and static: " + c);
            }
            if (c.getDeclaredFields().length > 20) {
                fault("too many fields: " + c);
            }
            for (Method m : c.getDeclaredMethods()) {
                if (publicNames.contains(m.getName()) || m.getParameterCount() > 7) {
                    fault("a name of the face, or too many parameters: " + m);
                }
            }
        }
        for (Method m : SumsThatTell.class.getDeclaredMethods()) {
            if (isPrivate(m) && publicNames.contains(m.getName())) {
                fault("a private method with a name of the face: " + m);
            }
        }
    }

    private static void staticState() {
        for (Class<?> c : SumsThatTell.class.getNestMembers()) {
            for (Field f : c.getDeclaredFields()) {
                if (Modifier.isStatic(f.getModifiers()) && !Modifier.isFinal(f.getModifiers())) {
                    fault("static and not final: " + f);
                }
            }
        }
    }

    private static void libraryCalls(String code) {
        Matcher call = Pattern.compile("\\b[A-Z]\\w*[a-z]\\w*\\.\\w+").matcher(code);
        while (call.find()) {
            String owner = call.group().substring(0, call.group().indexOf('.'));
            if (!code.contains(" class " + owner + " ") && !call.group().matches(LIBRARY)) {
                fault("not of the library that is left: " + call.group());
            }
        }
    }

    /** A method begins with a row that ends in ') {' under its class, and ends with a brace as far in. */
    private static void methodsAreShort(String source) {
        String form = "(?m)^( {4}| {8})(?:public|private) [^;{=]*\\) \\{\\n((?s).*?)^\\1\\}$";
        Matcher method = Pattern.compile(form).matcher(source);
        int methods = 0;
        while (method.find()) {
            methods++;
            if (method.group(2).lines().count() > LONGEST_METHOD) {
                fault("a long method: " + method.group().lines().findFirst().orElse(""));
            }
        }
        if (methods < FACE.size()) {
            fault("methods were not found in the source: only " + methods);
        }
    }

    private static void words() throws IOException {
        String source = Files.readString(SOURCE);
        String code = source.replaceAll("(?s)/\\*.*?\\*/", "").replaceAll("//.*", "");
        libraryCalls(code.replaceAll("import [^;]*;", ""));
        methodsAreShort(source);
        Matcher ruledOut = Pattern.compile("(?<!\\w)(" + RULED_OUT + ")(?!\\w)").matcher(code);
        while (ruledOut.find()) {
            fault("ruled out: " + ruledOut.group());
        }
        Matcher imports = Pattern.compile("import ([^;]*);").matcher(code);
        while (imports.find()) {
            if (!Set.of("java.util.Arrays", "java.util.ArrayList", "java.util.List").contains(imports.group(1))) {
                fault("ruled out: " + imports.group());
            }
        }
        if (!source.chars().allMatch(ch -> ch < 128)) {
            fault("the source has letters that are not plain");
        }
    }

    public static void main(String[] args) throws IOException {
        face();
        classesInside();
        staticState();
        words();
        System.out.println(wrong == 0 ? "the face and the language are kept" : wrong + " faults");
        if (wrong != 0) {
            System.exit(1);
        }
    }
}
