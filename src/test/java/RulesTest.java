import java.io.IOException;
import java.lang.reflect.Field;
import java.lang.reflect.Method;
import java.lang.reflect.Modifier;
import java.nio.file.Files;
import java.nio.file.Path;
import java.util.HashSet;
import java.util.Set;
import java.util.TreeSet;
import java.util.regex.Matcher;
import java.util.regex.Pattern;

/** The rules of LANGUAGE.md that a reading of the class can tell. */
public final class RulesTest {
    private static final String FACE = "SaddleFit() back(int,int) burden(int,int) byTwo(int,int) carries(int) could(int) day(int) down(int,int) drift(int) fair(int,int) "
            + "fault() feed(int) feel(int,int,int) fit(int) goBack(int) hand(int,int,int) judge() keep(int) order(int,int) seed(int) share(int,int) "
            + "shareOf(int,int,int) shop() sore(int,int) stuff(int,int) take(int,int) tear() told(int) tryNext() undo() weigh(int,int) when(int) worst(int,int) write(int,int)";

    public static void main(String[] args) throws IOException {
        face();
        members();
        String source = Files.readString(Path.of("src/main/java/SaddleFit.java"));
        words(source);
        library(source);
        lengths(source);
        madeOnce(source);
        Check.end("RulesTest");
    }

    private static void face() {
        Set<String> names = new TreeSet<>();
        for (Method m : SaddleFit.class.getDeclaredMethods()) {
            if (Modifier.isPublic(m.getModifiers())) {
                if (m.getReturnType() != int.class || Modifier.isStatic(m.getModifiers())) {
                    Check.fail(m + " is not of the face");
                }
                StringBuilder types = new StringBuilder();
                for (Class<?> type : m.getParameterTypes()) {
                    types.append(types.length() == 0 ? "" : ",").append(type.getName());
                }
                names.add(m.getName() + "(" + types + ")");
            }
        }
        Check.due("public constructors", SaddleFit.class.getConstructors().length, 1);
        names.add("SaddleFit()");
        Check.same("the face", FACE, String.join(" ", names));
        Check.row("constants", new int[] {SaddleFit.NONE, SaddleFit.UNKNOWN, SaddleFit.OUTSIDE, SaddleFit.NOT, SaddleFit.FULL},
                -1, -1000000001, -1000000002, -1000000003, -1000000004);
        int publicFields = SaddleFit.class.getFields().length;
        Check.due("public fields", publicFields, 5);
    }

    private static void members() {
        Set<String> publicNames = new HashSet<>();
        for (Method m : SaddleFit.class.getDeclaredMethods()) {
            if (Modifier.isPublic(m.getModifiers())) {
                publicNames.add(m.getName());
            } else if (!Modifier.isPrivate(m.getModifiers())) {
                Check.fail(m + " is neither public nor private");
            }
        }
        for (Method m : SaddleFit.class.getDeclaredMethods()) {
            named(m, publicNames);
        }
        fields(SaddleFit.class);
        Check.due("classes are some twelve at most", SaddleFit.class.getDeclaredClasses().length < 13 ? 1 : 0, 1);
        for (Class<?> inside : SaddleFit.class.getDeclaredClasses()) {
            if (!Modifier.isStatic(inside.getModifiers()) || !Modifier.isPrivate(inside.getModifiers())) {
                Check.fail(inside + " is not private and static");
            }
            fields(inside);
            for (Method m : inside.getDeclaredMethods()) {
                named(m, publicNames);
            }
        }
    }

    private static void named(Method m, Set<String> publicNames) {
        if (!Modifier.isPublic(m.getModifiers()) && publicNames.contains(m.getName())) {
            Check.fail(m + " bears the name of a public one");
        }
        if (m.getParameterCount() > 7) {
            Check.fail(m + " takes more than seven parameters");
        }
    }

    private static void fields(Class<?> of) {
        int own = 0;
        for (Field f : of.getDeclaredFields()) {
            own += Modifier.isStatic(f.getModifiers()) ? 0 : 1;
            if (Modifier.isStatic(f.getModifiers()) && !Modifier.isFinal(f.getModifiers())) {
                Check.fail(f + " is static and not final");
            }
        }
        if (own > 20) {
            Check.fail(of + " has " + own + " fields");
        }
    }

    private static String withoutComments(String source) {
        return source.replaceAll("(?s)/\\*.*?\\*/", " ").replaceAll("//[^\n]*", " ");
    }

    private static void words(String source) {
        String code = withoutComments(source);
        Pattern ruledOut = Pattern.compile("\\b(throw|throws|try|catch|synchronized|assert|import|package|yield|native|volatile|transient)\\b"
                + "|->|::|\\bstatic\\s*\\{|\\w+Exact\\b|\\bnew\\s+\\w+\\s*\\([^)]*\\)\\s*\\{|\\b(System\\.(?!arraycopy)|Thread|Object|Random|hashCode|toString)");
        Matcher m = ruledOut.matcher(code);
        while (m.find()) {
            Check.fail("the class has " + m.group());
        }
        for (int i = 0; i < source.length(); i++) {
            if (source.charAt(i) > 126) {
                Check.fail("a sign of number " + (int) source.charAt(i));
            }
        }
    }

    /** Rule 4 names functions, and none of the library's constants. */
    private static void library(String source) {
        Matcher m = Pattern.compile("\\b(?!SaddleFit\\b)([A-Z][a-z]\\w*)\\.(\\w+)(\\()?").matcher(withoutComments(source));
        while (m.find()) {
            if (!(m.group(1) + "." + m.group(2)).matches("Math\\.(max|min|abs|floorDiv|floorMod)|System\\.arraycopy|(Integer|Long)\\.(compare|max|min|bitCount)|Arrays\\.(copyOf|copyOfRange|fill)")
                    || m.group(3) == null) {
                Check.fail("the class uses " + m.group());
            }
        }
    }

    /** A method's head and its closing brace stand at the same depth. */
    private static void lengths(String source) {
        String[] lines = source.split("\n");
        Pattern head = Pattern.compile("^( {4}| {8})(?!.*\\bclass\\b)[\\w].*\\) \\{$");
        for (int i = 0; i < lines.length; i++) {
            Matcher m = head.matcher(lines[i]);
            if (m.find()) {
                int end = i;
                while (end < lines.length && !lines[end].equals(m.group(1) + "}")) {
                    end++;
                }
                if (end - i > 60) {
                    Check.fail("a method of " + (end - i) + " lines: " + lines[i].trim());
                }
            }
        }
    }

    /** All calls of a run live in one room: objects and rows are made with the object, no call makes one. */
    private static void madeOnce(String source) {
        Pattern made = Pattern.compile("^ {4,8}(private )?final [\\w\\[\\]]+ \\w+ = new .*;$|^ +(images|loads)\\[i\\] = new Load\\(\\);$");
        for (String line : withoutComments(source).split("\n")) {
            if (line.matches(".*(\\bnew |\\.clone\\(|\\bcopyOf).*") && !made.matcher(line).find()) {
                Check.fail("a call makes an object: " + line.trim());
            }
        }
    }
}
