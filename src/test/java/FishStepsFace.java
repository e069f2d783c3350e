import java.io.IOException;
import java.lang.reflect.Constructor;
import java.lang.reflect.Field;
import java.lang.reflect.Method;
import java.lang.reflect.Modifier;
import java.nio.file.Files;
import java.nio.file.Path;
import java.util.ArrayList;
import java.util.Arrays;
import java.util.Collections;
import java.util.List;
import java.util.regex.Matcher;
import java.util.regex.Pattern;

/** The public face as the document tells it, and those rules of LANGUAGE.md that the text or the class itself shows. */
public final class FishStepsFace {
    private static final String SOURCE = "src/main/java/FishSteps.java";

    private static final String[] CALLS = {
        "int rule(int,int)", "int buyer(int,int)", "int worth(int,int,int)", "int margin(int,int)", "int told(int,int)",
        "int earn(int,int)", "int type(long,int)", "int rules()", "int lots()", "int count(int)", "int lot(int,int)",
        "int gain(int)", "int till(int)", "int morning()", "int span(int,int,int)", "int hush()", "int best(int)",
        "int rests(int)", "int order(int)", "int ring(int)", "int image()", "int restore()", "int which(int,int,int,int)",
        "int film(int,int,int)", "int sheet(int,int,int)", "int drop(int)", "int item(int,int,int,long)",
        "int copy(int,int,int,int,int)"};
    private static final String[] CONSTANTS = {
        "BAD -1", "NOT -2", "FULL -3", "NONE -4", "NULL -11", "CAST -12", "INDEX -13", "SIZE -14"};

    private static int wrong = 0;

    private static void must(boolean so, String what) {
        if (so) return;
        wrong++;
        System.out.println(what);
    }

    private static String told(Method m) {
        List<String> types = new ArrayList<>();
        for (Class<?> t : m.getParameterTypes()) types.add(t.getSimpleName());
        return m.getReturnType().getSimpleName() + " " + m.getName() + "(" + String.join(",", types) + ")";
    }

    private static void sameSet(String what, List<String> got, String[] want) {
        List<String> due = new ArrayList<>(Arrays.asList(want));
        Collections.sort(due);
        Collections.sort(got);
        must(got.equals(due), what + ": " + got + ", due are " + due);
    }

    private static void face(Class<?> c) throws IllegalAccessException {
        List<String> calls = new ArrayList<>(), constants = new ArrayList<>();
        for (Method m : c.getDeclaredMethods()) {
            if (m.isSynthetic()) continue;
            if (Modifier.isPrivate(m.getModifiers())) continue;
            must(m.getModifiers() == Modifier.PUBLIC, "not just public: " + m);
            calls.add(told(m));
        }
        for (Field f : c.getDeclaredFields()) {
            if (Modifier.isPrivate(f.getModifiers())) continue;
            must(f.getModifiers() == (Modifier.PUBLIC | Modifier.STATIC | Modifier.FINAL) && f.getType() == int.class, "rule 1: " + f);
            constants.add(f.getName() + " " + f.getInt(null));
        }
        sameSet("calls", calls, CALLS);
        sameSet("constants", constants, CONSTANTS);
        Constructor<?>[] made = c.getDeclaredConstructors();
        must(made.length == 1 && made[0].getModifiers() == Modifier.PUBLIC && made[0].getParameterCount() == 0, "the constructor");
        must(c.getModifiers() == (Modifier.PUBLIC | Modifier.FINAL), "public and final");
        must(c.getDeclaredClasses().length < 12, "rule 11: classes");
    }

    private static void inside(Class<?> c) {
        List<String> names = new ArrayList<>();
        for (String call : CALLS) names.add(call.substring(4, call.indexOf('(')));
        for (Method m : c.getDeclaredMethods()) {
            boolean ofFace = Modifier.isPublic(m.getModifiers());
            must(ofFace || !names.contains(m.getName()), "rule 1: " + m);
            must(m.getParameterCount() <= 7, "rule 11: " + m);
        }
        int fields = 0;
        for (Field f : c.getDeclaredFields()) {
            boolean fixed = Modifier.isStatic(f.getModifiers());
            must(!fixed || Modifier.isFinal(f.getModifiers()), "rule 5: " + f);
            fields += fixed ? 0 : 1;
        }
        must(fields <= 20, "rule 11: fields of " + c);
        for (Class<?> d : c.getDeclaredClasses()) {
            must(Modifier.isStatic(d.getModifiers()) && !Modifier.isPublic(d.getModifiers()), "rule 1: " + d);
            inside(d);
        }
    }

    private static void text() throws IOException {
        String all = Files.readString(Path.of(SOURCE));
        for (char c : all.toCharArray()) must(c < 127, "rule 4: a sign above 126");
        String code = all.replaceAll("(?s)/\\*.*?\\*/", "").replaceAll("//[^\n]*", "");
        String[] never = {"->", "::", "\\bcatch\\b", "\\bthrow\\b", "\\btry\\b", "\\bfinally\\b", "\\bsynchronized\\b", "\\bassert\\b",
            "\\bpackage\\b", "\"", "\\bstatic\\s*\\{", "Exact\\b", "\\bSystem\\.(?!arraycopy\\b)", "\\bMath\\.(?!max\\b|min\\b)",
            "\\bInteger\\.(?!bitCount\\b)", "\\bArrays\\.(?!fill\\b)", "\\bimport (?!java\\.util\\.Arrays;)"};
        for (String n : never) must(!Pattern.compile(n).matcher(code).find(), "not in the language: " + n);
        String[] lines = all.split("\n");
        int from = -1;
        Pattern head = Pattern.compile("^(    |        )(public|private)[^=;]*\\) \\{$");
        String end = "";
        for (int i = 0; i < lines.length; i++) {
            must(lines[i].length() <= 130, "a long line: " + (i + 1));
            Matcher m = head.matcher(lines[i]);
            if (m.matches()) {
                from = i;
                end = m.group(1) + "}";
            } else if (lines[i].equals(end)) {
                must(i - from < 60, "rule 11: the method from line " + (from + 1));
            }
        }
    }

    public static void main(String[] args) throws Exception {
        face(FishSteps.class);
        inside(FishSteps.class);
        text();
        System.out.println(wrong == 0 ? "the face is as told" : wrong + " faults of the face or the language");
        if (wrong != 0) System.exit(1);
    }
}
