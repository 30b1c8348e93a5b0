import java.lang.reflect.Method;
import java.lang.reflect.Modifier;
import java.nio.charset.StandardCharsets;
import java.nio.file.Files;
import java.nio.file.Path;
import java.util.regex.Matcher;
import java.util.regex.Pattern;

/** Calls what README.md calls, on one object from its first line on, and looks at what it says of each. */
public final class ReadmeTest {
    private static final Pattern TEXT = Pattern.compile("String text = \"([^\"]*)\";");
    private static final Pattern CALL = Pattern.compile("^    sky\\.(\\w+)\\(([^)]*)\\); +// (-?\\w+): .*", Pattern.MULTILINE);
    private static final Pattern ROW = Pattern.compile("^\\| `SkyTurns\\.([A-Z]+)` +\\| (-\\d+) +\\|", Pattern.MULTILINE);
    private static final Check CHECK = new Check();

    public static void main(String[] args) throws Exception {
        String page = Files.readString(Path.of("README.md"), StandardCharsets.UTF_8);
        Matcher text = TEXT.matcher(page);
        CHECK.holds("README.md tells a text", text.find());
        SkyTurns sky = new SkyTurns();
        Check.feedAll(sky, text.group(1));
        int calls = 0;
        for (Matcher call = CALL.matcher(page); call.find(); calls++) {
            CHECK.due("README.md: " + call.group().trim(), answer(sky, call.group(1), call.group(2)), number(call.group(3)));
        }
        CHECK.due("README.md: calls", calls, 14);
        int rows = 0;
        for (Matcher row = ROW.matcher(page); row.find(); rows++) {
            CHECK.due("README.md: " + row.group(1), number(row.group(1)), Integer.parseInt(row.group(2)));
        }
        CHECK.due("README.md: refusals", rows, 4);
        for (Method m : SkyTurns.class.getDeclaredMethods()) {
            String name = m.getName();
            if (Character.isLowerCase(name.charAt(0)) && Modifier.isPublic(m.getModifiers())) {
                CHECK.holds("README.md names " + name, page.contains("`" + name + "`"));
            }
        }
        CHECK.end();
    }

    private static int answer(SkyTurns sky, String name, String told) throws Exception {
        String[] parts = told.isEmpty() ? new String[0] : told.split(", ");
        Class<?>[] types = new Class<?>[parts.length];
        Object[] values = new Object[parts.length];
        for (int k = 0; k < parts.length; k++) {
            types[k] = int.class;
            values[k] = parts[k].startsWith("'") ? parts[k].charAt(1) : Integer.parseInt(parts[k]);
            if (values[k] instanceof Character sign) values[k] = (int) sign;
        }
        return (Integer) SkyTurns.class.getMethod(name, types).invoke(sky, values);
    }

    private static int number(String told) throws Exception {
        boolean named = Character.isUpperCase(told.charAt(0));
        return named ? SkyTurns.class.getField(told).getInt(null) : Integer.parseInt(told);
    }
}
