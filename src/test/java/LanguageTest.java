import java.lang.management.ManagementFactory;
import java.lang.reflect.Constructor;
import java.lang.reflect.Field;
import java.lang.reflect.Method;
import java.lang.reflect.Modifier;
import java.nio.file.Files;
import java.nio.file.Path;
import java.util.ArrayList;
import java.util.List;
import java.util.TreeSet;
import java.util.regex.Matcher;
import java.util.regex.Pattern;

/** That the source keeps to LANGUAGE.md as far as a scan can tell, to the face, and to its room. */
public final class LanguageTest {
    private static final String[] FACE = {
        "int inmate(int,int)", "int like(int,int,int)", "int swear(int,int,int)",
        "int set(int,int,int)", "int told(int,int)", "int feed(int)", "int text()",
        "int force(int)", "int would(int,int)", "int now(int)", "int turnOut(int,int)",
        "int goOn(int)", "int end(int,int)", "int safe()", "int sworn(int)", "int oaths(int)",
        "int shield(int,int)", "int holds(int)", "int who(int,int)", "int drawn(int,int)",
        "long chance(int,int,int,int,int)", "int image()", "int back()", "int count(int)",
        "int sheet(int,int,int)", "int cell(int,int,int)", "int copy(int,int,int,int,int)",
        "int likes(int,int,int,int)", "int taken(int,int)"};

    private static int wrong = 0;

    public static void main(String[] args) throws Exception {
        String source = withoutComments(Files.readString(Path.of("src/main/java/ThreeOfThem.java")));
        words(source);
        lengths(source);
        face();
        nested();
        room();
        System.out.println(wrong == 0 ? "the language is kept to" : wrong + " rules broken");
        if (wrong != 0) {
            System.exit(1);
        }
    }

    private static void tell(boolean ok, String what) {
        if (!ok) {
            wrong++;
            System.out.println(what);
        }
    }

    private static String withoutComments(String s) {
        return s.replaceAll("(?s)/\\*.*?\\*/", "").replaceAll("//[^\n]*", "");
    }

    private static void words(String source) {
        String[] never = {"\\bthrow\\b", "\\bthrows\\b", "\\btry\\b", "\\bcatch\\b", "\\bassert\\b",
            "\\bsynchronized\\b", "\\bpackage\\b", "->", "::", "Exact\\b", "\\bSystem\\.(?!arraycopy)",
            "\\bthread", "\\bRandom\\b", "\\bhashCode\\b", "\\btoString\\b", "\\bwhile *\\(true\\)",
            "\\bstatic *\\{", "\\bprotected\\b", "\\bObject\\b", "\\bException\\b", "\\bimport static\\b",
            "\\[\\]\\[\\]\\[\\]", "@"};
        for (String n : never) {
            Matcher m = Pattern.compile(n).matcher(source);
            tell(!m.find(), "the source has " + n);
        }
        Matcher imports = Pattern.compile("(?m)^import (.*);").matcher(source);
        while (imports.find()) {
            tell(imports.group(1).equals("java.util.Arrays"), "import " + imports.group(1));
        }
        for (char c : source.toCharArray()) {
            tell(c == 10 || c >= 32 && c < 127, "a sign " + (int) c);
        }
    }

    /** A method's lines: from one that opens it to the one that closes it at the same indent. */
    private static void lengths(String source) {
        String[] lines = source.split("\n");
        Pattern head = Pattern.compile("^( {4}| {8})[a-zA-Z].*\\((.*)\\) \\{$");
        for (int i = 0; i < lines.length; i++) {
            Matcher m = head.matcher(lines[i]);
            if (m.matches()) {
                int to = i;
                while (!lines[to].equals(m.group(1) + "}")) {
                    to++;
                }
                tell(to - i <= 60, "a long method: " + lines[i]);
                tell(m.group(2).split(",").length <= 7, "many parameters: " + lines[i]);
            }
            tell(lines[i].length() <= 110, "a long line: " + lines[i]);
        }
    }

    private static void face() {
        Class<?> c = ThreeOfThem.class;
        tell(Modifier.isFinal(c.getModifiers()) && Modifier.isPublic(c.getModifiers()), "public final");
        TreeSet<String> due = new TreeSet<>(List.of(FACE));
        TreeSet<String> is = new TreeSet<>();
        for (Method m : c.getDeclaredMethods()) {
            if (!Modifier.isPrivate(m.getModifiers())) {
                tell(Modifier.isPublic(m.getModifiers()) && !Modifier.isStatic(m.getModifiers()),
                    "not public: " + m);
                is.add(signature(m));
            }
        }
        tell(is.equals(due), "the face is " + is);
        TreeSet<String> constants = new TreeSet<>();
        for (Field f : c.getDeclaredFields()) {
            if (!Modifier.isPrivate(f.getModifiers())) {
                constants.add(Modifier.toString(f.getModifiers()) + " " + f.getType() + " " + f.getName());
            }
        }
        tell(constants.equals(new TreeSet<>(List.of("public static final int NONE",
            "public static final int BAD", "public static final int STATE",
            "public static final int FULL", "public static final long NO"))), "constants " + constants);
        Constructor<?>[] made = c.getDeclaredConstructors();
        tell(made.length == 1 && Modifier.isPublic(made[0].getModifiers())
            && made[0].getParameterCount() == 0, "one public constructor");
    }

    private static String signature(Method m) {
        List<String> types = new ArrayList<>();
        for (Class<?> t : m.getParameterTypes()) {
            types.add(t.getName());
        }
        return m.getReturnType().getName() + " " + m.getName() + "(" + String.join(",", types) + ")";
    }

    private static void nested() {
        TreeSet<String> names = new TreeSet<>();
        for (String f : FACE) {
            names.add(f.substring(f.indexOf(' ') + 1, f.indexOf('(')));
        }
        for (Method m : ThreeOfThem.class.getDeclaredMethods()) {
            tell(!Modifier.isPrivate(m.getModifiers()) || !names.contains(m.getName()), "name of " + m);
        }
        Class<?>[] inside = ThreeOfThem.class.getDeclaredClasses();
        tell(inside.length <= 11, "classes");
        for (Class<?> c : inside) {
            tell(Modifier.isStatic(c.getModifiers()) && !Modifier.isPublic(c.getModifiers()), "" + c);
            for (Method m : c.getDeclaredMethods()) {
                tell(!names.contains(m.getName()), "name of " + m);
            }
            statics(c);
        }
        statics(ThreeOfThem.class);
    }

    private static void statics(Class<?> c) {
        int fields = 0;
        for (Field f : c.getDeclaredFields()) {
            if (Modifier.isStatic(f.getModifiers())) {
                Class<?> t = f.getType();
                tell(Modifier.isFinal(f.getModifiers())
                    && (t.isPrimitive() || t == String.class || t == int[].class), "static " + f);
            } else {
                fields++;
            }
        }
        tell(fields <= 20, "fields of " + c);
    }

    /** The dearest object: seven inmates, a long text, 512 calls that look far. */
    private static void room() {
        com.sun.management.ThreadMXBean bean =
            (com.sun.management.ThreadMXBean) ManagementFactory.getThreadMXBean();
        long me = Thread.currentThread().getId();
        for (int round = 0; round < 2; round++) {
            long before = bean.getThreadAllocatedBytes(me);
            long sum = dearRun();
            long bytes = bean.getThreadAllocatedBytes(me) - before;
            tell(bytes < 200000, "a run takes " + bytes + " bytes (" + sum + ")");
        }
    }

    private static long dearRun() {
        ThreeOfThem x = new ThreeOfThem();
        for (int i = 0; i < 7; i++) {
            x.inmate(i % 6, i);
        }
        String text = "company like*days-many;oath share;joins days<900;";
        for (int i = 0; i < text.length(); i++) {
            x.feed(text.charAt(i));
        }
        x.force(x.text());
        long sum = 0;
        for (int i = 0; i < 40; i++) {
            sum += x.chance(i, 10, 30, 0, 0) + x.holds(1) + x.oaths(0) + x.end(127, 0) + x.goOn(0)
                + x.holds(0) + x.image() + x.back() + x.sheet(0, 2, 40) + x.safe() + x.now(2);
        }
        return sum;
    }
}
