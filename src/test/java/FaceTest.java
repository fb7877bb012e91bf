import java.io.IOException;
import java.lang.reflect.Constructor;
import java.lang.reflect.Field;
import java.lang.reflect.Method;
import java.lang.reflect.Modifier;
import java.nio.file.Files;
import java.nio.file.Path;
import java.util.List;
import java.util.TreeSet;
import java.util.regex.Matcher;
import java.util.regex.Pattern;

/** The face of the document and, as far as a look at the text shows them, the rules of LANGUAGE.md. */
public final class FaceTest {
    private static final String NONE_SUCH = " throws NoSuchElementException";
    private static final String ILLEGAL = " throws IllegalArgumentException";
    private static final String BOTH = " throws NoSuchElementException, IllegalArgumentException";
    private static final String[] FACE = {
        "int feed(int, int, int, int, int)", "int village(int)" + ILLEGAL, "int fault()",
        "int count(int)" + NONE_SUCH, "int where(int, int)" + NONE_SUCH, "int thing(int, int)" + NONE_SUCH,
        "int word(int, int, int, int)" + NONE_SUCH, "int apart(int)" + ILLEGAL, "int way(int)" + NONE_SUCH,
        "int say(int, int, int, int, boolean)" + NONE_SUCH, "int utter(int, int, int)" + BOTH, "int unsay()",
        "int saying(int, int)" + NONE_SUCH, "int could(int, int, int, boolean)" + NONE_SUCH,
        "int wrong(int)" + NONE_SUCH, "int mend()", "int mended(int)" + NONE_SUCH,
        "int silence(int, int)" + NONE_SUCH, "int likely(int, int)" + NONE_SUCH, "int worlds(int)" + ILLEGAL,
        "int tell(int, int, boolean)" + NONE_SUCH, "boolean known(int, int, int, boolean)" + BOTH, "void image()",
        "boolean restore()"};
    private static final String[] NEVER = {"->", "::", "\\btry\\b", "\\bcatch\\b", "\\bfinally\\b", "\\bsynchronized\\b",
        "\\bassert\\b", "\\bprotected\\b", "\\bstatic \\{", "Exact\\(", "\\bSystem\\.(?!arraycopy)", "\\bdouble\\b",
        "\\bfloat\\b", "\\bObject\\b", "\\bString\\[", "\\.hashCode\\(", "\\.toString\\("};

    public static void main(String[] args) throws IOException {
        members();
        for (Class<?> inner : EndingTown.class.getDeclaredClasses()) {
            Check.is(inner + " is static", Modifier.isStatic(inner.getModifiers()), true);
            Check.is(inner + " is not public", Modifier.isPublic(inner.getModifiers()), false);
            names(inner);
            fields(inner);
        }
        names(EndingTown.class);
        fields(EndingTown.class);
        Check.is("at most twelve classes", EndingTown.class.getDeclaredClasses().length <= 11, true);
        if (args.length > 0) {
            text(Files.readAllLines(Path.of(args[0])));
        }
        Check.end();
    }

    private static String plain(Method method) {
        String text = method.toString().replace("public ", "").replace("EndingTown.", "");
        return text.replace("java.lang.", "").replace("java.util.", "").replace(",", ", ");
    }

    private static void members() {
        TreeSet<String> face = new TreeSet<>(List.of(FACE));
        for (Method method : EndingTown.class.getDeclaredMethods()) {
            boolean open = Modifier.isPublic(method.getModifiers());
            Check.is(method + " is public or private", open || Modifier.isPrivate(method.getModifiers()), true);
            if (open) {
                Check.is(method + " is of the face", face.remove(plain(method)), true);
            }
        }
        Check.is("lacking " + face, face.size(), 0);
        for (Field field : EndingTown.class.getDeclaredFields()) {
            boolean open = field.getName().equals("NONE") && Modifier.isPublic(field.getModifiers());
            Check.is(field + " is private", open || Modifier.isPrivate(field.getModifiers()), true);
        }
        Constructor<?>[] made = EndingTown.class.getDeclaredConstructors();
        Check.is("one constructor", made.length, 1);
        Check.is("which is public", Modifier.isPublic(made[0].getModifiers()), true);
        Check.is("a final class", Modifier.isFinal(EndingTown.class.getModifiers()), true);
    }

    private static void names(Class<?> owner) {
        for (Method method : owner.getDeclaredMethods()) {
            boolean own = owner == EndingTown.class && Modifier.isPublic(method.getModifiers());
            for (String face : FACE) {
                boolean same = face.contains(" " + method.getName() + "(");
                Check.is(method + " bears a name of the face", same && !own, false);
            }
            Check.is(method + " takes at most seven", method.getParameterCount() <= 7, true);
        }
    }

    private static void fields(Class<?> owner) {
        int many = 0;
        for (Field field : owner.getDeclaredFields()) {
            boolean still = Modifier.isStatic(field.getModifiers());
            Check.is(field + " is final where static", !still || Modifier.isFinal(field.getModifiers()), true);
            many += still ? 0 : 1;
        }
        Check.is(owner + " has at most twenty fields", many <= 20, true);
    }

    private static void text(List<String> lines) {
        Pattern method = Pattern.compile("^( {4}| {8})[\\w\\[\\] ]+\\([^;]*$");
        int open = -1;
        for (int i = 0; i < lines.size(); i++) {
            String line = lines.get(i);
            String code = line.replaceAll("/\\*\\*.*\\*/|//.*", "").replaceAll("\"[^\"]*\"", "\"\"");
            for (String never : NEVER) {
                Check.is((i + 1) + ": " + never, Pattern.compile(never).matcher(code).find(), false);
            }
            if (method.matcher(line).matches()) {
                open = i;
            }
            if (open >= 0 && line.matches("( {4}| {8})\\}")) {
                Check.is((open + 1) + ": a short method", i - open <= 60, true);
                open = -1;
            }
            imports(i, code);
            made(i, code);
        }
    }

    private static void imports(int i, String code) {
        boolean fine = code.equals("import java.util.Arrays;") || code.equals("import java.util.NoSuchElementException;");
        Check.is((i + 1) + ": an import", !code.startsWith("import") || fine, true);
    }

    /** Nothing is made but with the object itself, and what is thrown. */
    private static void made(int i, String code) {
        Matcher m = Pattern.compile("\\bnew (\\w+)").matcher(code);
        while (m.find()) {
            boolean thrown = code.trim().startsWith("throw new") || code.contains(": throw new");
            boolean field = code.matches(" {8}(private )?final .*= new .*;");
            boolean inConstructor = code.matches(" {8}\\w+ = new .*;");
            Check.is((i + 1) + ": made with the object", thrown || field || inConstructor, true);
        }
    }
}
