import java.io.IOException;
import java.lang.reflect.Constructor;
import java.lang.reflect.Field;
import java.lang.reflect.Method;
import java.lang.reflect.Modifier;
import java.nio.file.Files;
import java.nio.file.Path;
import java.util.ArrayList;
import java.util.Arrays;
import java.util.List;
import java.util.Set;
import java.util.TreeSet;
import java.util.regex.Matcher;
import java.util.regex.Pattern;

/** What of LANGUAGE.md can be looked at by reflection and in the source's text. */
public final class LanguageTest {
    private static final String[] FACE = {"cube(int,int,int,int)int", "about(int,int)int", "at(int,int)int", "dead(int,boolean)int",
        "charge(int,int)int", "can(int)int", "move(int)int", "moves()int", "broken()int", "fault(int,int)int", "shape(int)int",
        "in(int,int,int)int", "met(int,int)int", "plan(int,int)int", "planned(int,int,int)int", "judge(int)int", "program(int)int",
        "gives(int,int)int", "rule(int)int", "ticks(int)int", "report(int,int,boolean)int", "believed(int,int,int)int",
        "wrong(int,int)int", "image()int", "restore()int", "count(int)int", "keep(int,int,int)int", "row(int,int,int)int",
        "put(int,int,int)int", "element(int,int)long", "copy(int,int,int,int,int)int", "sum(int)int", "toss(int)int"};
    private static final String[] BANNED = {"->", "::", "\\bfinally\\b", "\\bsynchronized\\b", "\\bassert\\b", "\\bimport\\b",
        "\\bpackage\\b", "\\bMath\\.\\w+Exact\\b", "\\bwhile\\s*\\(true\\)", "\\bequals\\b", "\\bhashCode\\b", "\\btoString\\b",
        "\\bSystem\\.(?!arraycopy\\b)", "\\bThread\\b", "\\bRandom\\b", "\\bException\\b", "\\bRuntimeException\\b", "\\bThrowable\\b",
        "\\bIndexOutOfBoundsException\\b", "\\bNullPointerException\\b", "\\bClassCastException\\b", "\\bArithmeticException\\b",
        "\\bNegativeArraySizeException\\b", "\\bArrayStoreException\\b", "\\bvar\\b", "\\bprotected\\b"};

    private static final List<String> FAULTS = new ArrayList<>();

    private static void check(boolean holds, String rule) {
        if (!holds) FAULTS.add(rule);
    }

    private static String signature(Method m) {
        List<String> types = new ArrayList<>();
        for (Class<?> t : m.getParameterTypes()) types.add(t.getSimpleName());
        return m.getName() + "(" + String.join(",", types) + ")" + m.getReturnType().getSimpleName();
    }

    private static void lookAtFace() {
        Set<String> face = new TreeSet<>();
        Set<String> names = new TreeSet<>();
        for (Method m : CubeFolk.class.getDeclaredMethods()) {
            boolean isPublic = Modifier.isPublic(m.getModifiers());
            check(isPublic || Modifier.isPrivate(m.getModifiers()), "rule 1: " + m);
            if (isPublic) {
                face.add(signature(m));
                names.add(m.getName());
                check(!Modifier.isStatic(m.getModifiers()), "rule 1: static " + m);
            }
        }
        check(face.equals(new TreeSet<>(Arrays.asList(FACE))), "rule 1: the face is " + face);
        check(Modifier.isFinal(CubeFolk.class.getModifiers()) && Modifier.isPublic(CubeFolk.class.getModifiers()), "rule 1: public final");
        Constructor<?>[] made = CubeFolk.class.getDeclaredConstructors();
        check(made.length == 1 && made[0].getParameterCount() == 0 && Modifier.isPublic(made[0].getModifiers()), "rule 1: constructor");
        for (Field f : CubeFolk.class.getDeclaredFields()) {
            check(Modifier.isPrivate(f.getModifiers()), "rule 1: " + f);
        }
        lookAtClasses(names);
    }

    private static void lookAtClasses(Set<String> publicNames) {
        Class<?>[] inside = CubeFolk.class.getDeclaredClasses();
        check(inside.length <= 12, "rule 11: classes");
        for (Class<?> c : inside) {
            check(Modifier.isStatic(c.getModifiers()) && !Modifier.isPublic(c.getModifiers()), "rule 1: " + c);
            for (Method m : c.getDeclaredMethods()) {
                check(!publicNames.contains(m.getName()), "rule 1: a method inside bears the name of a public one: " + m);
                check(m.getParameterCount() <= 7, "rule 11: " + m);
            }
            lookAtFields(c);
        }
        lookAtFields(CubeFolk.class);
    }

    private static void lookAtFields(Class<?> c) {
        int own = 0;
        for (Field f : c.getDeclaredFields()) {
            boolean isStatic = Modifier.isStatic(f.getModifiers());
            check(!isStatic || Modifier.isFinal(f.getModifiers()), "rule 5: " + f);
            own += isStatic ? 0 : 1;
        }
        check(own <= 20, "rule 11: fields of " + c);
    }

    /** The source without comments and with empty texts. */
    private static String codeOf(String source) {
        String code = source.replaceAll("(?s)/\\*.*?\\*/", " ").replaceAll("//[^\n]*", " ");
        return code.replaceAll("\"[^\"\n]*\"", "\"\"");
    }

    private static void lookAtText(String code) {
        for (String banned : BANNED) {
            Matcher m = Pattern.compile(banned).matcher(code);
            check(!m.find(), "a banned word: " + banned);
        }
        Matcher calls = Pattern.compile("\\b(Math|Integer|Long|Arrays|String|System)\\.(\\w+)").matcher(code);
        Set<String> allowed = Set.of("Math.floorMod", "Long.bitCount", "System.arraycopy");
        while (calls.find()) check(allowed.contains(calls.group()), "rule 4: " + calls.group());
        check(!Pattern.compile("\"\\s*\\+|\\+\\s*\"").matcher(code).find(), "rule 10: texts joined by +");
        for (char sign : code.toCharArray()) check(sign < 128, "a sign above 127");
        lookAtLengths(code);
    }

    private static void lookAtLengths(String code) {
        String[] lines = code.split("\n");
        int start = -1;
        String end = "";
        for (int i = 0; i < lines.length; i++) {
            Matcher m = Pattern.compile("^( +)[\\w<>\\[\\] ,]*\\([^;]*\\{\\s*$").matcher(lines[i]);
            if (start < 0 && m.find() && (m.group(1).length() == 4 || m.group(1).length() == 8)) {
                start = i;
                end = m.group(1) + "}";
            } else if (start >= 0 && lines[i].startsWith(end)) {
                check(i - start < 60, "rule 11: a long method at line " + (start + 1));
                start = -1;
            }
        }
    }

    public static void main(String[] args) throws IOException {
        lookAtFace();
        lookAtText(codeOf(Files.readString(Path.of("src/main/java/CubeFolk.java"))));
        for (String fault : FAULTS) System.out.println(fault);
        System.out.println(FAULTS.isEmpty() ? "the language is kept to" : FAULTS.size() + " faults of language");
        if (!FAULTS.isEmpty()) System.exit(1);
    }
}
