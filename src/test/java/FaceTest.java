import java.io.IOException;
import java.lang.reflect.Field;
import java.lang.reflect.Member;
import java.lang.reflect.Method;
import java.lang.reflect.Modifier;
import java.nio.charset.StandardCharsets;
import java.nio.file.Files;
import java.nio.file.Path;
import java.util.ArrayList;
import java.util.List;
import java.util.Set;
import java.util.TreeSet;
import java.util.regex.Matcher;
import java.util.regex.Pattern;

/** The public face as the document has it, and those rules of the language that a look at the source can tell. */
public final class FaceTest {
    private static int wrong;

    private static void holds(boolean it, String what) {
        if (!it) {
            wrong++;
            System.out.println(what);
        }
    }

    private static String read(String path) {
        try {
            return new String(Files.readAllBytes(Path.of(path)), StandardCharsets.ISO_8859_1);
        } catch (IOException e) {
            throw new IllegalStateException(path, e);
        }
    }

    /** The methods that the document names, as "int feed(int,int,int,int,int)". */
    private static Set<String> documentFace() {
        Set<String> face = new TreeSet<>();
        Matcher lines = Pattern.compile("    public (int|long) (\\w+)\\(([^)]*)\\);").matcher(read("../shared/DOC.md"));
        while (lines.find()) {
            face.add(lines.group(1) + " " + lines.group(2) + "("
                + lines.group(3).replaceAll(" \\w+(, |$)", ",").replaceAll(",$", "") + ")");
        }
        return face;
    }

    private static Set<String> programFace() {
        Set<String> face = new TreeSet<>();
        for (Method method : OneBell.class.getDeclaredMethods()) {
            if (Modifier.isPublic(method.getModifiers())) {
                List<String> types = new ArrayList<>();
                for (Class<?> type : method.getParameterTypes()) {
                    types.add(type.getName());
                }
                face.add(method.getReturnType() + " " + method.getName() + "(" + String.join(",", types) + ")");
            }
        }
        return face;
    }

    private static void face() {
        Set<String> wanted = documentFace();
        holds(wanted.size() == 46, "the document names " + wanted.size() + " methods");
        holds(wanted.equals(programFace()), "the face is " + programFace() + ", due is " + wanted);
        holds(Modifier.isFinal(OneBell.class.getModifiers()), "the class isn't final");
        holds(OneBell.class.getConstructors().length == 1, "there is another constructor");
        List<Member> members = new ArrayList<>(List.of(OneBell.class.getDeclaredMethods()));
        members.addAll(List.of(OneBell.class.getDeclaredFields()));
        for (Member member : members) {
            boolean constant = member.getName().equals("NONE");
            boolean method = member instanceof Method && Modifier.isPublic(member.getModifiers());
            holds(constant || method || Modifier.isPrivate(member.getModifiers()) || member.isSynthetic(),
                member + " isn't private");
        }
        for (Class<?> inside : OneBell.class.getDeclaredClasses()) {
            holds(Modifier.isStatic(inside.getModifiers()), inside + " isn't static");
            holds(inside.getDeclaredFields().length <= 40, inside + " has many fields");
            for (Method method : inside.getDeclaredMethods()) {
                holds(!isPublicName(method.getName()), method + " bears the name of a public one");
            }
            for (Field field : inside.getDeclaredFields()) {
                holds(!Modifier.isStatic(field.getModifiers()) || Modifier.isFinal(field.getModifiers()),
                    field + " is static and not final");
            }
        }
        for (Method method : OneBell.class.getDeclaredMethods()) {
            holds(Modifier.isPublic(method.getModifiers()) || !isPublicName(method.getName()),
                method + " bears the name of a public one");
            holds(method.getParameterCount() <= 7, method + " takes more than seven");
        }
    }

    private static boolean isPublicName(String name) {
        for (String line : documentFace()) {
            if (line.contains(" " + name + "(")) {
                return true;
            }
        }
        return false;
    }

    private static void source() {
        String source = read("src/main/java/OneBell.java").replaceAll("/\\*[\\s\\S]*?\\*/", "").replaceAll("//.*", "");
        String[] ruledOut = {"\\bthrow", "\\btry\\b", "\\bcatch\\b", "\\bsynchronized\\b", "\\bassert\\b", "->", "::",
            "\\bpackage\\b", "\\bprotected\\b", "Exact\\b", "\\bstatic\\s*\\{", "\\bhashCode\\b", "\\btoString\\b",
            "\\bSystem\\.(?!arraycopy)", "\\bRandom\\b", "\\bThread\\b", "\\bimport (?!java\\.util\\.Arrays;)",
            "Arrays\\.(?!fill|copyOf|copyOfRange)\\w+", "Math\\.(?!max|min)\\w+", "Integer\\.(?!bitCount)\\w+",
            "\\[\\]\\[\\]\\[\\]", "[^\\x00-\\x7f]", "\" \\+", "\\+ \""};
        for (String rule : ruledOut) {
            Matcher found = Pattern.compile(rule).matcher(source);
            holds(!found.find(), "the source has " + rule);
        }
        int start = 0;
        int line = 0;
        for (String text : source.split("\n")) {
            line++;
            if (text.matches(" {4,8}[\\w].*\\) \\{")) {
                start = line;
            }
            holds(!text.matches(" {4,8}\\}") || line - start <= 60, "a long method ends in line " + line);
            holds(text.length() <= 120, "line " + line + " is long");
        }
    }

    public static void main(String[] arguments) {
        face();
        source();
        System.out.println(wrong == 0 ? "the face is as due" : wrong + " are not as due");
        if (wrong != 0) {
            System.exit(1);
        }
    }
}
