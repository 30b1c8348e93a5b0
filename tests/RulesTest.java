import java.lang.reflect.Constructor;
import java.lang.reflect.Field;
import java.lang.reflect.Method;
import java.lang.reflect.Modifier;
import java.nio.charset.StandardCharsets;
import java.nio.file.Files;
import java.nio.file.Path;
import java.util.ArrayList;
import java.util.Collections;
import java.util.HashSet;
import java.util.List;
import java.util.Set;
import java.util.regex.Matcher;
import java.util.regex.Pattern;

/** What of LANGUAGE.md, and of the document's face, can be told from the class and its source. */
public final class RulesTest {
    private static final String FACE = "chain(int,int) drift(int) edge() fault() feed(int) fruit(int) goBack(int) hour(int) join(int)"
        + " judge() keep(int) offer(int,int) owes(int) pair(int) payments() person(int,int) pillar(int,int) see(int) seed(int)"
        + " shifts(int,int,int) sinks(int,int) sons(int) sure() take(int) tear() told(int) undo(int) who(int) word(int)"
        + " words(int,int,int,int,int) write(int,int,boolean)";
    private static final String CONSTANTS = "FULL NONE NOT OUTSIDE UNKNOWN";
    private static final String BANNED = "\\b(throw|throws|try|catch|finally|synchronized|assert|import|package|volatile|native"
        + "|equals|hashCode|toString|\\w+Exact|currentTimeMillis|nanoTime|Random|Thread|Object|var)\\b|->|::|@";
    private static final Check CHECK = new Check();

    public static void main(String[] args) throws Exception {
        face();
        classesInside();
        source();
        CHECK.end();
    }

    private static void face() {
        Class<?> c = SkyTurns.class;
        CHECK.holds("the class is public and final", Modifier.isPublic(c.getModifiers()) && Modifier.isFinal(c.getModifiers()));
        List<String> methods = new ArrayList<>();
        for (Method m : c.getDeclaredMethods()) {
            if (Modifier.isPrivate(m.getModifiers())) continue;
            CHECK.holds(m + " is public and answers an int", Modifier.isPublic(m.getModifiers()) && m.getReturnType() == int.class);
            List<String> types = new ArrayList<>();
            for (Class<?> type : m.getParameterTypes()) types.add(type.getName());
            methods.add(m.getName() + "(" + String.join(",", types) + ")");
        }
        Collections.sort(methods);
        CHECK.holds("the methods are the document's, not " + methods, String.join(" ", methods).equals(FACE));
        List<String> constants = new ArrayList<>();
        for (Field f : c.getDeclaredFields()) {
            if (!Modifier.isPrivate(f.getModifiers())) constants.add(f.getName());
        }
        Collections.sort(constants);
        CHECK.holds("the constants are the document's, not " + constants, String.join(" ", constants).equals(CONSTANTS));
        Constructor<?>[] made = c.getDeclaredConstructors();
        CHECK.holds("one public constructor", made.length == 1 && Modifier.isPublic(made[0].getModifiers()) && made[0].getParameterCount() == 0);
    }

    private static void classesInside() {
        Set<String> faceNames = new HashSet<>();
        for (String call : FACE.split(" ")) faceNames.add(call.substring(0, call.indexOf('(')));
        List<Class<?>> all = new ArrayList<>(List.of(SkyTurns.class.getDeclaredClasses()));
        CHECK.holds("twelve classes at most", all.size() + 1 <= 12);
        for (Class<?> inside : all) {
            int m = inside.getModifiers();
            CHECK.holds(inside + " is static and not public", Modifier.isStatic(m) && !Modifier.isPublic(m) && !Modifier.isProtected(m));
        }
        all.add(SkyTurns.class);
        for (Class<?> c : all) {
            int fields = 0;
            for (Field f : c.getDeclaredFields()) {
                if (Modifier.isStatic(f.getModifiers())) CHECK.holds(f + " is final", Modifier.isFinal(f.getModifiers()));
                else fields++;
            }
            CHECK.holds(c + " has twenty fields at most", fields <= 20);
            for (Method method : c.getDeclaredMethods()) {
                CHECK.holds(method + " has seven parameters at most", method.getParameterCount() <= 7);
                if (c != SkyTurns.class || !Modifier.isPublic(method.getModifiers())) {
                    CHECK.holds(method + " bears no public one's name", !faceNames.contains(method.getName()));
                }
            }
        }
    }

    private static void source() throws Exception {
        String text = Files.readString(Path.of("src/main/java/SkyTurns.java"), StandardCharsets.UTF_8);
        CHECK.holds("plain letters alone", text.chars().allMatch(k -> k == '\n' || k >= 32 && k < 127));
        String code = text.replaceAll("(?s)/\\*.*?\\*/", "").replaceAll("//[^\n]*", "");
        Matcher banned = Pattern.compile(BANNED).matcher(code);
        while (banned.find()) CHECK.holds("no " + banned.group(), false);
        CHECK.holds("no text is joined", !code.contains("\""));
        int from = 0;
        String[] lines = text.split("\n");
        for (int k = 0; k < lines.length; k++) {
            if (lines[k].matches(" {4,8}[^ /].*\\) \\{")) from = k;
            if (lines[k].matches(" {4,8}\\}")) CHECK.holds("a short method at line " + (from + 1), k - from <= 60);
        }
    }
}
