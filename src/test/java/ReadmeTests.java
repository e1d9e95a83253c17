import java.lang.reflect.Method;
import java.nio.file.Files;
import java.nio.file.Path;
import java.util.regex.Matcher;
import java.util.regex.Pattern;

/** The examples of README.md, call by call, as they stand there. Run it in the project's directory. */
public final class ReadmeTests {
    private static final Pattern CALL = Pattern.compile("drawer\\.(\\w+)\\(([-0-9, ]*)\\); +// (-?\\d+|[A-Z_]+)\\b(.*)");
    private static final Pattern HELD = Pattern.compile("slot (\\d) holds (\"([^\"]*)\"|nothing)");
    private static final Pattern PUT = Pattern.compile("put\\(drawer, (\\d), \"(.*)\"\\);");
    private static final Pattern TYPE = Pattern.compile("type\\(drawer, \"(.*)\"\\);");
    private static final String NEW_DRAWER = "SettingsDrawer drawer = new SettingsDrawer();";

    private SettingsDrawer drawer;
    private int calls = 0;

    public static void main(String[] args) throws Exception {
        String[] lines = Files.readString(Path.of("README.md")).split("\n");
        ReadmeTests examples = new ReadmeTests();
        boolean inExample = false;
        for (int i = 0; i < lines.length; i++) {
            if (lines[i].startsWith("```")) {
                inExample = lines[i].equals("```java");
            } else if (inExample) {
                Check.due("README.md, line " + (i + 1) + " is understood", examples.takes(lines[i]) ? 1 : 0, 1);
            }
        }
        Check.due("there are examples", examples.calls > 40 ? 1 : 0, 1);
        Check.finish("ReadmeTests");
    }

    private boolean takes(String line) throws Exception {
        Matcher call = CALL.matcher(line);
        Matcher put = PUT.matcher(line);
        Matcher type = TYPE.matcher(line);
        if (line.equals(NEW_DRAWER)) {
            drawer = new SettingsDrawer();
        } else if (call.matches()) {
            Check.due(line, answer(call.group(1), call.group(2)), number(call.group(3)));
            slotsHold(line, call.group(4));
        } else if (put.matches()) {
            Check.put(drawer, Integer.parseInt(put.group(1)), plain(put.group(2)));
        } else if (type.matches()) {
            drawer.wipe();
            Check.type(drawer, plain(type.group(1)));
        } else {
            return false;
        }
        calls++;
        return true;
    }

    private int answer(String name, String arguments) throws Exception {
        String[] told = arguments.isEmpty() ? new String[0] : arguments.split(", ");
        Class<?>[] types = new Class<?>[told.length];
        Object[] numbers = new Object[told.length];
        for (int i = 0; i < told.length; i++) {
            types[i] = int.class;
            numbers[i] = Integer.valueOf(told[i]);
        }
        Method method = SettingsDrawer.class.getMethod(name, types);
        return (Integer) method.invoke(drawer, numbers);
    }

    private static int number(String told) throws Exception {
        return told.matches("-?\\d+") ? Integer.parseInt(told) : SettingsDrawer.class.getField(told).getInt(null);
    }

    private void slotsHold(String line, String comment) {
        Matcher held = HELD.matcher(comment);
        while (held.find()) {
            Check.dueText(line, Check.read(drawer, Integer.parseInt(held.group(1))), held.group(3));
        }
    }

    /** A text as Java's source tells it. */
    private static String plain(String told) {
        return told.translateEscapes();
    }
}
