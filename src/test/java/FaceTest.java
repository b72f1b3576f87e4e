import java.lang.reflect.Constructor;
import java.lang.reflect.Field;
import java.lang.reflect.InvocationTargetException;
import java.lang.reflect.Method;
import java.lang.reflect.Modifier;
import java.nio.file.Files;
import java.nio.file.Path;
import java.util.Arrays;
import java.util.Set;
import java.util.TreeSet;
import java.util.regex.Matcher;
import java.util.regex.Pattern;

/** The face is the document's and no more, no call ever throws, and the source keeps to LANGUAGE.md's plainest rules. */
public final class FaceTest {
    private static final String[] FACE = {
        "int player(int, int)", "boolean plays(int, int, int)", "int cost(int, int)", "boolean here(int, boolean)",
        "int feed(int, int, int, int, int)", "int end(int)", "int load()", "int rule()", "int fault(int)",
        "int piece(int, int)", "int playable(int)", "int lacks(int)", "int seat(int)", "int again(int)",
        "int chair(int, int)", "boolean sit(int, int, int)", "int seating(int, int)", "int programme(int, int)",
        "int plan(int)", "int strain()", "int tell(int, int, int)", "int where(int, int, int)",
        "int copies(int, int, int)", "int contest(int)", "int may(int, int)", "int count(int)"
    };
    private static final int[] EDGES = {
        Integer.MIN_VALUE, -1000, -4, -3, -2, -1, 0, 1, 2, 3, 5, 9, 10, 11, 13, 14, 18, 19, 20, 29, 30, 99, 100, 101,
        109, 110, 119, 190, 199, 200, 201, 600, 601, 800, 801, 999, 1000, Integer.MAX_VALUE
    };

    public static void main(String[] args) throws Exception {
        members();
        neverThrows(new TownBand());
        neverThrows(full());
        source();
        Check.end("FaceTest");
    }

    private static String told(Method m) {
        StringBuilder s = new StringBuilder(m.getReturnType().getName()).append(" ").append(m.getName()).append("(");
        for (Class<?> c : m.getParameterTypes()) {
            s.append(s.charAt(s.length() - 1) == '(' ? "" : ", ").append(c.getName());
        }
        return s.append(")").toString();
    }

    private static void members() throws Exception {
        Check.due("final", Modifier.isFinal(TownBand.class.getModifiers()), true);
        Check.due("NONE", TownBand.class.getField("NONE").getInt(null), -1);
        Set<String> want = new TreeSet<>(Arrays.asList(FACE));
        Set<String> got = new TreeSet<>();
        Set<String> names = new TreeSet<>();
        for (Method m : TownBand.class.getDeclaredMethods()) {
            if (Modifier.isPublic(m.getModifiers())) {
                got.add(told(m));
                names.add(m.getName());
            } else {
                Check.due("private " + m, Modifier.isPrivate(m.getModifiers()), true);
            }
        }
        Check.due("the face " + got, got.equals(want), true);
        for (Field f : TownBand.class.getDeclaredFields()) {
            Check.due("field " + f, Modifier.isPrivate(f.getModifiers()) || f.getName().equals("NONE"), true);
        }
        for (Constructor<?> c : TownBand.class.getDeclaredConstructors()) {
            Check.due("constructor " + c, c.getParameterCount() == 0 && Modifier.isPublic(c.getModifiers()), true);
        }
        inside(names);
    }

    private static void inside(Set<String> names) {
        for (Class<?> c : TownBand.class.getDeclaredClasses()) {
            Check.due("static " + c, Modifier.isStatic(c.getModifiers()) && !Modifier.isPublic(c.getModifiers()), true);
            int fields = 0;
            for (Field f : c.getDeclaredFields()) {
                Check.due("static and not final " + f, Modifier.isStatic(f.getModifiers()) && !Modifier.isFinal(f.getModifiers()), false);
                fields += Modifier.isStatic(f.getModifiers()) ? 0 : 1;
            }
            Check.due("fields of " + c, fields <= 20, true);
            for (Method m : c.getDeclaredMethods()) {
                Check.due("a public one's name " + m, names.contains(m.getName()), false);
                Check.due("parameters of " + m, m.getParameterCount() <= 7, true);
            }
        }
        Check.due("classes", TownBand.class.getDeclaredClasses().length < 12, true);
    }

    private static TownBand full() {
        TownBand x = Check.band(14);
        StringBuilder text = new StringBuilder();
        for (int k = 0; k < 10; k++) {
            text.append("piece ").append((char) ('a' + k)).append(":5 1 1,must 0,must 1 or 2,may 3;");
        }
        Check.load(x, text.toString());
        for (int p = 0; p < 14; p++) {
            x.plays(p, p % 4, p % 10);
        }
        Check.rule(x, "!(out+past<3)|age=day-days");
        for (int w = 0; w < 200; w++) {
            x.tell(w % 30, w * 5, w % 16 - 2);
        }
        Check.due("programme of the full one", x.programme(600, 18), 50);
        return x;
    }

    private static void neverThrows(TownBand x) throws Exception {
        for (Method m : TownBand.class.getDeclaredMethods()) {
            if (Modifier.isPublic(m.getModifiers())) {
                callAll(x, m, new Object[m.getParameterCount()], 0);
            }
        }
    }

    private static void callAll(TownBand x, Method m, Object[] values, int at) throws Exception {
        if (at == values.length || at == 3) {
            for (int i = at; i < values.length; i++) {
                values[i] = values[0];
            }
            try {
                m.invoke(x, values);
            } catch (InvocationTargetException e) {
                Check.due(m.getName() + Arrays.toString(values) + " threw " + e.getCause(), 1, 0);
            }
            return;
        }
        if (m.getParameterTypes()[at] == boolean.class) {
            for (boolean b : new boolean[] {false, true}) {
                values[at] = b;
                callAll(x, m, values, at + 1);
            }
            return;
        }
        for (int edge : EDGES) {
            values[at] = edge;
            callAll(x, m, values, at + 1);
        }
    }

    private static void source() throws Exception {
        String text = Files.readString(Path.of("src/main/java/TownBand.java"));
        String code = text.replaceAll("(?s)/\\*.*?\\*/", "").replaceAll("//[^\n]*", "");
        String[] banned = {"\\bthrow\\b", "\\btry\\b", "\\bcatch\\b", "\\bassert\\b", "\\bsynchronized\\b", "->", "::",
            "\\bprotected\\b", "\\bpackage\\b", "Exact\\b", "\\bSystem\\.(?!arraycopy)", "\\bThread\\b", "\\bRandom\\b", "\\bvar\\b"};
        for (String b : banned) {
            Check.due("in the source: " + b, Pattern.compile(b).matcher(code).find(), false);
        }
        Matcher imports = Pattern.compile("import ([^;]*);").matcher(code);
        while (imports.find()) {
            Check.due("import of " + imports.group(1), imports.group(1).equals("java.util.Arrays"), true);
        }
        Check.due("only bytes of 7 bits", text.chars().allMatch(c -> c < 128), true);
    }
}
