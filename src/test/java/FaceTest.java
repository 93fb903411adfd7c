import java.lang.reflect.Constructor;
import java.lang.reflect.Field;
import java.lang.reflect.Method;
import java.lang.reflect.Modifier;
import java.nio.charset.StandardCharsets;
import java.nio.file.Files;
import java.nio.file.Path;
import java.util.Arrays;
import java.util.List;
import java.util.Set;
import java.util.TreeSet;
import java.util.regex.Matcher;
import java.util.regex.Pattern;

/** The document's face and no more, and those rules of LANGUAGE.md that can be read off the class and its text. */
public final class FaceTest {
    private static final String[] FACE = {
        "int feed(int,int,int,int,int)", "int rules(int)", "int fault(int)", "void anew()", "int junction(boolean)",
        "int path(int,int)", "boolean mark(int,boolean)", "boolean period(int)", "boolean gate(int,int)",
        "boolean shut(int,boolean)", "int place(int,int)", "int walk(int)", "int walked(int)", "long lost()", "int help(int)",
        "int helped(int)", "long tale(int)", "long turn(int,int)", "int home()", "int homing(int)", "int look(int,int)",
        "int count(int)",
    };

    private static final String[] BANNED = {
        "\\bcatch\\b", "\\btry\\b", "\\bfinally\\b", "\\bsynchronized\\b", "\\bassert\\b", "->", "::", "Exact\\b", "\\bSystem\\.(?!arraycopy)",
        "\\bRandom\\b", "\\bThread\\b", "\\bdouble\\b", "\\bfloat\\b", "^package\\b", "\\bhashCode\\b", "\\btoString\\b", "\\bequals\\b",
    };

    private static int wrong = 0;

    public static void main(String[] args) throws Exception {
        checkFace();
        checkClassesInside();
        checkText();
        checkLengths();
        System.out.println(wrong == 0 ? "the face is as due" : wrong + " faults");
        if (wrong != 0) {
            System.exit(1);
        }
    }

    private static void need(boolean holds, String what) {
        if (!holds) {
            wrong++;
            System.out.println("not so: " + what);
        }
    }

    private static String signature(Method method) {
        StringBuilder text = new StringBuilder(method.getReturnType().getSimpleName()).append(' ').append(method.getName()).append('(');
        String comma = "";
        for (Class<?> type : method.getParameterTypes()) {
            text.append(comma).append(type.getSimpleName());
            comma = ",";
        }
        return text.append(')').toString();
    }

    private static void checkFace() throws Exception {
        Class<?> face = LabyrinthGarden.class;
        need(Modifier.isPublic(face.getModifiers()) && Modifier.isFinal(face.getModifiers()), "public final class");
        Set<String> due = new TreeSet<>(Arrays.asList(FACE));
        Set<String> found = new TreeSet<>();
        for (Method method : face.getDeclaredMethods()) {
            if (Modifier.isPublic(method.getModifiers())) {
                found.add(signature(method));
                need(!Modifier.isStatic(method.getModifiers()), method + " is of an object");
            } else if (!method.isSynthetic()) {
                need(Modifier.isPrivate(method.getModifiers()), method + " is private");
            }
        }
        need(due.equals(found), "the methods " + found + " are " + due);
        Class<?>[] thrown = face.getMethod("look", int.class, int.class).getExceptionTypes();
        need(Arrays.equals(thrown, new Class<?>[] {IndexOutOfBoundsException.class, java.util.NoSuchElementException.class}),
            "look throws what it says");
        for (Field field : face.getDeclaredFields()) {
            boolean constant = field.getName().equals("NONE");
            need(constant ? Modifier.isPublic(field.getModifiers()) : Modifier.isPrivate(field.getModifiers()), field + " is private");
            need(!Modifier.isStatic(field.getModifiers()) || Modifier.isFinal(field.getModifiers()), field + " is no static state");
        }
        Constructor<?>[] made = face.getDeclaredConstructors();
        need(made.length == 1 && Modifier.isPublic(made[0].getModifiers()) && made[0].getParameterCount() == 0, "one constructor");
    }

    private static void checkClassesInside() {
        Set<String> taken = new TreeSet<>();
        for (Method method : LabyrinthGarden.class.getMethods()) {
            taken.add(method.getName());
        }
        Class<?>[] inside = LabyrinthGarden.class.getDeclaredClasses();
        need(inside.length <= 12, "at most twelve classes");
        for (Class<?> one : inside) {
            need(Modifier.isStatic(one.getModifiers()) && !Modifier.isPublic(one.getModifiers()), one + " is static, not public");
            int fields = 0;
            for (Field field : one.getDeclaredFields()) {
                boolean shared = Modifier.isStatic(field.getModifiers());
                fields += shared ? 0 : 1;
                need(!shared || Modifier.isFinal(field.getModifiers()), field + " is no static state");
            }
            need(fields <= 20, one + " has twenty fields at most");
            for (Method method : one.getDeclaredMethods()) {
                need(!taken.contains(method.getName()), method + " bears no name of the face");
                need(method.getParameterCount() <= 7, method + " takes seven parameters at most");
            }
        }
    }

    private static void checkText() throws Exception {
        String text = Files.readString(Path.of("src/main/java/LabyrinthGarden.java"), StandardCharsets.ISO_8859_1);
        for (char sign : text.toCharArray()) {
            need(sign == '\n' || sign >= 32 && sign < 127, "plain signs, not " + (int) sign);
        }
        String code = text.replaceAll("(?s)/\\*.*?\\*/", "").replaceAll("//[^\n]*", "");
        for (String banned : BANNED) {
            Matcher matcher = Pattern.compile(banned, Pattern.MULTILINE).matcher(code);
            need(!matcher.find(), "free of " + banned);
        }
        Matcher imports = Pattern.compile("^import ([^;]*);", Pattern.MULTILINE).matcher(code);
        while (imports.find()) {
            need(imports.group(1).equals("java.util.NoSuchElementException"), "no import of " + imports.group(1));
        }
    }

    /** A method ends where a brace stands below its first sign. */
    private static void checkLengths() throws Exception {
        List<String> lines = Files.readAllLines(Path.of("src/main/java/LabyrinthGarden.java"), StandardCharsets.ISO_8859_1);
        int methods = 0;
        for (int i = 0; i < lines.size(); i++) {
            Matcher head = Pattern.compile("( {4}| {8})\\w.*\\).* \\{").matcher(lines.get(i));
            if (head.matches()) {
                methods++;
                int length = lines.subList(i, lines.size()).indexOf(head.group(1) + "}") + 1;
                need(length > 0 && length <= 60, lines.get(i).trim() + " has sixty lines at most");
            }
        }
        need(methods > 22, "the methods were found");
    }
}
