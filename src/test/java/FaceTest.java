import java.io.IOException;
import java.lang.reflect.Constructor;
import java.lang.reflect.Field;
import java.lang.reflect.Method;
import java.lang.reflect.Modifier;
import java.nio.file.Files;
import java.nio.file.Path;
import java.util.ArrayList;
import java.util.List;
import java.util.Set;
import java.util.TreeSet;
import java.util.regex.Matcher;
import java.util.regex.Pattern;

/** The public face is the document's, and the file keeps to those rules of LANGUAGE.md that can be read off it. */
public final class FaceTest {
    private static final Check CHECK = new Check("FaceTest");
    private static final Path FILE = Path.of("src/main/java/DigHouse.java");
    private static final String[] FACE = {
        "int unit(int,int)", "int asks(int,int)", "int asked()", "int trace(int)", "int above(int,int)", "int cut(int,int)",
        "int fill(int,int)", "int bond(int,int)", "int ring(int)", "int relation(int,int)", "int later(int,int)", "int block(int)",
        "int chart(int)", "int row(int)", "int tray(int,int)", "int lose(int)", "int coin(int,int,int,int)",
        "int sample(int,int,int,int)", "int sherds(int,int,int,int)", "int note(int,int,long)", "int bag(int,int,int)",
        "int take(int,int)", "int move(int,int,int,int)", "int kind(int,int)", "int sherd(int,int,int)", "int year(int,int,boolean)",
        "int grain(int,int,boolean)", "int letter(int,int,int)", "int bagged(int,int)", "int mark(int,int,int)",
        "int copy(int,int,int,int,int)", "int join(int,int,int,int)", "int joins(int,int)", "int total(int,int)", "int share(int,int)",
        "int span(int,int,int)", "int drawn(int,int)", "int quarrel()", "int because(int)", "long orders()", "int first()",
        "int next()", "int place(int)", "int undo()", "int count(int)", "int status()", "long digest()"};

    private static void holds(String what, boolean is) {
        CHECK.due(what, is ? 1 : 0, 1);
    }

    private static String faceOf(Method m) {
        List<String> types = new ArrayList<>();
        for (Class<?> c : m.getParameterTypes()) {
            types.add(c.getName());
        }
        return m.getReturnType().getName() + " " + m.getName() + "(" + String.join(",", types) + ")";
    }

    private static void face() {
        Set<String> there = new TreeSet<>();
        for (Method m : DigHouse.class.getDeclaredMethods()) {
            if (!Modifier.isPrivate(m.getModifiers())) {
                holds(m.getName() + " is public and no more", m.getModifiers() == Modifier.PUBLIC);
                there.add(faceOf(m));
            }
        }
        holds("the methods are the document's, not " + there, there.equals(new TreeSet<>(List.of(FACE))));
        Constructor<?>[] made = DigHouse.class.getDeclaredConstructors();
        holds("one public constructor", made.length == 1 && made[0].getModifiers() == Modifier.PUBLIC && made[0].getParameterCount() == 0);
        Set<String> fields = new TreeSet<>();
        for (Field f : DigHouse.class.getDeclaredFields()) {
            if (!Modifier.isPrivate(f.getModifiers())) {
                fields.add(f.toString());
            }
        }
        Set<String> constants = new TreeSet<>();
        for (String name : new String[] {"BAD", "STATE", "FULL", "RING", "NONE"}) {
            constants.add("public static final int DigHouse." + name);
        }
        holds("the constants are the document's, not " + fields, fields.equals(constants));
        holds("the class is public and final", DigHouse.class.getModifiers() == (Modifier.PUBLIC | Modifier.FINAL));
        CHECK.due("BAD", DigHouse.BAD, -1);
        CHECK.due("STATE", DigHouse.STATE, -2);
        CHECK.due("FULL", DigHouse.FULL, -3);
        CHECK.due("RING", DigHouse.RING, -4);
        CHECK.due("NONE", DigHouse.NONE, -5);
    }

    private static void nestedClasses() {
        Set<String> names = new TreeSet<>();
        for (String m : FACE) {
            names.add(m.substring(m.indexOf(' ') + 1, m.indexOf('(')));
        }
        Class<?>[] inside = DigHouse.class.getDeclaredClasses();
        holds("some twelve classes", inside.length + 1 <= 12);
        for (Class<?> c : inside) {
            holds(c + " is static", Modifier.isStatic(c.getModifiers()));
            int fields = 0;
            for (Field f : c.getDeclaredFields()) {
                fields += Modifier.isStatic(f.getModifiers()) ? 0 : 1;
                holds(f + " is final, if static", !Modifier.isStatic(f.getModifiers()) || Modifier.isFinal(f.getModifiers()));
            }
            holds(c + " has some twenty fields, not " + fields, fields <= 20);
            for (Method m : c.getDeclaredMethods()) {
                holds(m + " has a name of its own", !names.contains(m.getName()));
                holds(m + " has at most seven parameters", m.getParameterCount() <= 7);
            }
        }
        for (Method m : DigHouse.class.getDeclaredMethods()) {
            holds(m + " has a name of its own", !Modifier.isPrivate(m.getModifiers()) || !names.contains(m.getName()));
        }
    }

    private static void words(String code) {
        String[] ruledOut = {
            "\\btry\\b", "\\bcatch\\b", "\\bfinally\\b", "\\bthrow", "\\bsynchronized\\b", "\\bassert\\b", "->", "::", "\\bdouble\\b",
            "\\bFloat\\b", "\\bDouble\\b", "\\bString\\b", "Exact\\(", "\\bwhile\\b", "\\bSystem\\b", "\\bRandom\\b", "\\bequals\\b",
            "\\bhashCode\\b", "\\btoString\\b", "\\bpackage\\b", "\\bprotected\\b"};
        for (String word : ruledOut) {
            holds("no " + word, !Pattern.compile(word).matcher(code).find());
        }
        Matcher imports = Pattern.compile("^import (.*);$", Pattern.MULTILINE).matcher(code);
        while (imports.find()) {
            CHECK.due("import " + imports.group(1), imports.group(1).equals("java.util.Arrays") ? 1 : 0, 1);
        }
    }

    private static void lengths(List<String> lines) {
        int begin = -1;
        for (int i = 0; i < lines.size(); i++) {
            String line = lines.get(i);
            if (begin < 0 && line.matches(" {4,8}[\\w ].*\\) \\{") && !line.contains(" class ")) {
                begin = i;
            }
            if (begin >= 0 && line.matches(" {4,8}\\}") && line.indexOf('}') == lines.get(begin).replaceAll("\\S.*", "").length()) {
                holds("sixty lines at most: " + lines.get(begin), i - begin < 60);
                begin = -1;
            }
        }
    }

    public static void main(String[] args) throws IOException {
        face();
        nestedClasses();
        List<String> lines = Files.readAllLines(FILE);
        String text = String.join("\n", lines);
        holds("signs 1 to 127", text.chars().allMatch(c -> c > 0 && c < 128));
        words(text.replaceAll("(?s)/\\*.*?\\*/", "").replaceAll("//.*", ""));
        lengths(lines);
        CHECK.end();
    }
}
