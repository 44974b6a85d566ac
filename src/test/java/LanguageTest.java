import java.io.IOException;
import java.lang.reflect.Constructor;
import java.lang.reflect.Field;
import java.lang.reflect.Method;
import java.lang.reflect.Modifier;
import java.nio.charset.StandardCharsets;
import java.nio.file.Files;
import java.nio.file.Path;
import java.util.Arrays;
import java.util.Set;
import java.util.TreeSet;
import java.util.regex.Matcher;
import java.util.regex.Pattern;

/** The face of the document and those rules of LANGUAGE.md that can be seen from the source or the class. */
public final class LanguageTest {
    private static final Check CHECK = new Check();
    private static final String FACE = "hull(int,int,int,int,int)int ofHull(int,int)int station(int,int,int)int "
        + "build(int,int,int,int)int law(int,int,int,int)int words(int)int owes(int,int)int word(int,int,int)int "
        + "need(int,int)int broken(int,int)int worth(int,int)long risk(int,int)long best(int,int,int,int,int)long "
        + "shape(int,int,int,int,int)int shapes(int,int,int)int without(int,int,int,int,int,int)long "
        + "mend(int,int,int,int)int crowd(int,int,int,int,int)int step(int,int)int trim(int,int,int)int "
        + "route(int,int)int paid(int,int)int sheet(int,int,int)int lose(int)int put(int,int,int)int "
        + "cell(int,int,int)long copy(int,int,int,int,int)int tell(int)int launch(int)int as(int,int)int "
        + "trace()int fault()int many(int)int";
    private static final String[] FORBIDDEN = {"\\bthrow\\b", "\\bthrows\\b", "\\btry\\b", "\\bcatch\\b", "\\bfinally\\b",
        "\\bsynchronized\\b", "\\bassert\\b", "->", "::", "@", "\\bimport\\s+(?!java\\.util\\.(ArrayList|List|Arrays|Iterator);)", "\\bpackage\\b", "\\bprotected\\b",
        "\\bvar\\b", "static\\s*\\{", "Exact\\b", "\\bwhile\\s*\\(\\s*true\\b",
        "\\bSystem\\.(?!arraycopy\\b)", "\\bRandom\\b", "\\bThread\\b"};

    public static void main(String[] args) throws IOException {
        face();
        constants();
        classesInside();
        String source = Files.readString(Path.of(System.getProperty("keeltolls.source",
            "src/main/java/KeelTolls.java")), StandardCharsets.US_ASCII);
        wordsThatAreLeftOut(source);
        methodsStayShort(source);
        CHECK.end("LanguageTest");
    }

    private static void face() {
        Set<String> want = new TreeSet<>(Arrays.asList(FACE.split(" ")));
        Set<String> got = new TreeSet<>();
        Set<String> names = new TreeSet<>();
        for (Method m : KeelTolls.class.getDeclaredMethods()) {
            if (!Modifier.isPrivate(m.getModifiers()) && !m.isSynthetic()) {
                got.add(signature(m));
                names.add(m.getName());
                CHECK.due("public: " + m, Modifier.isPublic(m.getModifiers()) ? 1 : 0, 1);
            }
        }
        CHECK.due("the face, got " + got, got.equals(want) ? 1 : 0, 1);
        for (Method m : KeelTolls.class.getDeclaredMethods()) {
            if (Modifier.isPrivate(m.getModifiers())) {
                CHECK.due("bears the name of a public one: " + m, names.contains(m.getName()) ? 1 : 0, 0);
            }
        }
        Constructor<?>[] made = KeelTolls.class.getDeclaredConstructors();
        CHECK.due("constructors", made.length, 1);
        CHECK.due("its parameters", made[0].getParameterCount(), 0);
        CHECK.due("the constructor is public", Modifier.isPublic(made[0].getModifiers()) ? 1 : 0, 1);
        int modifiers = KeelTolls.class.getModifiers();
        CHECK.due("public and final", Modifier.isPublic(modifiers) && Modifier.isFinal(modifiers) ? 1 : 0, 1);
    }

    private static String signature(Method m) {
        StringBuilder text = new StringBuilder(m.getName()).append('(');
        for (Class<?> type : m.getParameterTypes()) {
            text.append(text.charAt(text.length() - 1) == '(' ? "" : ",").append(type.getName());
        }
        return text.append(')').append(m.getReturnType().getName()).toString();
    }

    private static void constants() {
        CHECK.due("UNKNOWN", KeelTolls.UNKNOWN, -1);
        CHECK.due("OUTSIDE", KeelTolls.OUTSIDE, -2);
        CHECK.due("STATE", KeelTolls.STATE, -3);
        CHECK.due("FULL", KeelTolls.FULL, -4);
        CHECK.due("NONE", KeelTolls.NONE, -9);
        CHECK.due("LOST", KeelTolls.LOST, Long.MIN_VALUE);
        int seen = 0;
        for (Field f : KeelTolls.class.getDeclaredFields()) {
            seen += Modifier.isPrivate(f.getModifiers()) ? 0 : 1;
            staticsAreFinal(f);
        }
        CHECK.due("constants that are not private", seen, 6);
    }

    private static void staticsAreFinal(Field f) {
        if (Modifier.isStatic(f.getModifiers())) {
            CHECK.due("a static field is final: " + f, Modifier.isFinal(f.getModifiers()) ? 1 : 0, 1);
        }
    }

    private static void classesInside() {
        Class<?>[] inside = KeelTolls.class.getDeclaredClasses();
        CHECK.due("classes, at most 12", inside.length + 1 <= 12 ? 1 : 0, 1);
        for (Class<?> c : inside) {
            int modifiers = c.getModifiers();
            CHECK.due("static: " + c, Modifier.isStatic(modifiers) ? 1 : 0, 1);
            CHECK.due("neither public nor protected: " + c,
                Modifier.isPublic(modifiers) || Modifier.isProtected(modifiers) ? 1 : 0, 0);
            CHECK.due("none inside " + c, c.getDeclaredClasses().length, 0);
            for (Field f : c.getDeclaredFields()) {
                staticsAreFinal(f);
            }
        }
    }

    private static void wordsThatAreLeftOut(String source) {
        String code = source.replaceAll("(?s)/\\*.*?\\*/", "").replaceAll("//[^\n]*", "");
        for (String word : FORBIDDEN) {
            Matcher m = Pattern.compile(word).matcher(code);
            CHECK.due("is found in the source: " + word, m.find() ? 1 : 0, 0);
        }
    }

    private static void methodsStayShort(String source) {
        Matcher m = Pattern.compile("(?m)^( {4}| {8})(\\S[^\n;=]*\\)) \\{\n(?s:(.*?))\n\\1\\}").matcher(source);
        int methods = 0;
        while (m.find()) {
            methods++;
            long lines = m.group(3).lines().count();
            CHECK.due(m.group(2) + " has " + lines + " lines, at most 60", lines <= 60 ? 1 : 0, 1);
        }
        CHECK.due("methods are found", methods > 80 ? 1 : 0, 1);
    }
}
