import java.io.IOException;
import java.lang.reflect.Constructor;
import java.lang.reflect.Field;
import java.lang.reflect.Method;
import java.lang.reflect.Modifier;
import java.nio.file.Files;
import java.nio.file.Path;
import java.util.Arrays;
import java.util.List;
import java.util.Set;
import java.util.TreeSet;
import java.util.regex.Matcher;
import java.util.regex.Pattern;

/** The face of the document, to the letter, and the rules of LANGUAGE.md that can be looked up. */
public final class FaceTest {
    private static final String FACE = "row(int,int,int) set(int,int,int) copy(int,int,int,int,int) drop(int)"
            + " feed(int) office() fault() read(int,int) aloud(int,int,int) cross(int,int) day() undo()"
            + " reader(int,int) letter(int,int) costs(int,int) best(int) allRead(int) bestAloud(int,int)"
            + " kills(int) post(int,int) crossOut(int,int) dies(int) late(int) soOld(int,int,int)"
            + " ages(int,int,int,int) burnt(int,int,int) image(int) restore(int) kind(int) as(int,int)"
            + " ask(int,int) trace(int) count(int) status()";

    private static int wrong;

    public static void main(String[] args) throws IOException {
        face();
        inside();
        constants();
        String path = args.length > 0 ? args[0] : "src/main/java/AgingLetters.java";
        source(Files.readString(Path.of(path)));
        System.out.println(wrong == 0 ? "the face and the rules hold" : wrong + " rules broken");
        if (wrong != 0) System.exit(1);
    }

    private static void hold(boolean holds, String rule) {
        if (holds) return;
        wrong++;
        System.out.println("broken: " + rule);
    }

    private static String told(Method m) {
        StringBuilder s = new StringBuilder(m.getName()).append('(');
        for (Class<?> p : m.getParameterTypes()) s.append(s.charAt(s.length() - 1) == '(' ? "" : ",").append(p.getName());
        return s.append(')').toString();
    }

    private static void face() {
        Class<?> c = AgingLetters.class;
        hold(Modifier.isPublic(c.getModifiers()) && Modifier.isFinal(c.getModifiers()), "public final class");
        hold(c.getPackageName().isEmpty() && c.getSuperclass() == Object.class && c.getInterfaces().length == 0,
                "no package, no other class above");
        Set<String> seen = new TreeSet<>();
        for (Method m : c.getDeclaredMethods()) {
            if (Modifier.isPrivate(m.getModifiers())) continue;
            hold(m.getModifiers() == Modifier.PUBLIC && m.getReturnType() == int.class, "public int " + told(m));
            seen.add(told(m));
        }
        hold(seen.equals(new TreeSet<>(Arrays.asList(FACE.split(" ")))), "the methods of the face: " + seen);
        Constructor<?>[] makers = c.getDeclaredConstructors();
        hold(makers.length == 1 && makers[0].getModifiers() == Modifier.PUBLIC && makers[0].getParameterCount() == 0,
                "one public constructor");
    }

    private static void inside() {
        Set<String> face = new TreeSet<>();
        for (String m : FACE.split(" ")) face.add(m.substring(0, m.indexOf('(')));
        Class<?> c = AgingLetters.class;
        hold(c.getDeclaredClasses().length < 12, "some twelve classes");
        for (Class<?> in : c.getDeclaredClasses()) {
            int how = in.getModifiers();
            hold(Modifier.isStatic(how) && !Modifier.isPublic(how) && !Modifier.isProtected(how), "inside: " + in);
            for (Method m : in.getDeclaredMethods()) hold(!face.contains(m.getName()), "no name of the face: " + m);
            fields(in);
        }
        for (Method m : c.getDeclaredMethods()) {
            if (Modifier.isPrivate(m.getModifiers())) hold(!face.contains(m.getName()), "no name of the face: " + m);
        }
        fields(c);
    }

    private static void fields(Class<?> c) {
        int own = 0;
        List<Class<?>> constants = List.of(int.class, long.class, boolean.class, char.class, String.class,
                int[].class, long[].class, char[].class, byte[].class);
        for (Field f : c.getDeclaredFields()) {
            if (Modifier.isStatic(f.getModifiers())) {
                hold(Modifier.isFinal(f.getModifiers()) && constants.contains(f.getType()), "constant: " + f);
            } else {
                own++;
            }
        }
        hold(own <= 20, "some twenty fields: " + c);
        for (Method m : c.getDeclaredMethods()) hold(m.getParameterCount() <= 7, "seven parameters: " + m);
    }

    private static void constants() {
        hold(AgingLetters.NONE == -1000000, "NONE");
        hold(AgingLetters.BAD == -1000001, "BAD");
        hold(AgingLetters.STATE == -1000002, "STATE");
        hold(AgingLetters.FULL == -1000003, "FULL");
        int open = 0;
        for (Field f : AgingLetters.class.getDeclaredFields()) {
            if (!Modifier.isPrivate(f.getModifiers())) open++;
        }
        hold(open == 4, "no other open field");
    }

    private static void source(String text) {
        for (char c : text.toCharArray()) hold(c < 128, "signs 1 to 127");
        String bare = text.replaceAll("(?s)/\\*.*?\\*/", "").replaceAll("//[^\n]*", "")
                .replaceAll("'(\\\\.|[^'])'", "0").replaceAll("\"(\\\\.|[^\"])*\"", "0");
        String[] words = {"throw", "throws", "try", "catch", "finally", "synchronized", "assert", "package", "volatile",
            "transient", "native", "var", "yield", "protected", "instanceof", "Object", "equals", "hashCode", "toString"};
        for (String word : words) hold(!Pattern.compile("\\b" + word + "\\b").matcher(bare).find(), "no " + word);
        for (String sign : new String[] {"->", "::", "@", "while", "?>"}) hold(!bare.contains(sign), "no " + sign);
        Matcher imports = Pattern.compile("import ([\\w.*]+);").matcher(bare);
        while (imports.find()) hold(imports.group(1).equals("java.util.Arrays"), "no " + imports.group(1));
        Matcher library = Pattern.compile("\\b(Arrays|System|Math|Integer|Long|String\\w*)\\.(\\w+)").matcher(bare);
        Set<String> used = new TreeSet<>();
        while (library.find()) used.add(library.group());
        used.remove("Arrays.fill");
        used.remove("System.arraycopy");
        used.remove("Integer.bitCount");
        hold(used.isEmpty(), "no library but what is listed: " + used);
        for (String line : bare.split("\n")) {
            // So that no call makes an object: the room of a run does not grow with its calls.
            if (line.contains("new ")) hold(line.strip().startsWith("private final "), "made at first: " + line);
        }
        lengths(bare);
    }

    private static void lengths(String bare) {
        int from = -1, line = 0;
        String indent = "";
        for (String l : bare.split("\n")) {
            line++;
            if (l.matches(" +(public|private|static|int|boolean|void|[A-Z]\\w*).*\\) \\{") && !l.contains(" else ")) {
                from = line;
                indent = l.substring(0, l.length() - l.stripLeading().length());
            }
            if (from > 0 && l.equals(indent + "}")) {
                hold(line - from < 60, "short methods: line " + from);
                from = -1;
            }
        }
    }
}
