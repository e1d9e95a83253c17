import java.lang.reflect.Method;
import java.util.ArrayList;
import java.util.HashMap;
import java.util.List;
import java.util.Map;
import java.util.Properties;
import java.util.Random;
import java.util.regex.Pattern;

/** Runs of at most 512 calls, made by fixed seeds, answered by the program and by Model. */
public final class RandomRunsTests {
    /** Each method with what its arguments are: s slot, c character, p place, y typed character, and so on. */
    private static final String[] CALLS = {
        "erase s", "forget s", "append s c", "append s c", "length s", "characterAt s p", "copy s s", "same s s",
        "type y", "tapeLength", "tapeAt p", "wipe", "load l", "load l", "load l", "brokenAt", "write l", "write l",
        "get l s s", "getOr l s s s", "has l s", "layerOf l s", "set l s s s", "set l s s s", "set l s s s",
        "drop l s s", "empty l", "size l", "names l", "name l p s", "keyFrom l s s", "alike l l", "digest l",
        "tokenize t s", "tokenizeBy t s s", "tokenizeAll t s s", "tokenizeValue t l s s", "more t", "count t",
        "next t s", "next t s", "nextBy t s s", "join j s", "joinWithin j s s s", "add j s", "add j s", "ifEmpty j s",
        "merge j j", "joined j s", "joinedLength j", "setJoined l s j", "keep i", "restore i", "refusals r"};
    private static final String TAPE_SIGNS = "ab=: \t#!\\\\\\\n\r\nu004100e9tnrfFgx1";
    private static final String[] TAPE_PIECES = {
        "\\u0041", "\\u00e9", "\\u00", "\\u0100", "\\\n ", "\\\r\n", "\r\n", "\n", "\n", "\n", "=", ":", " ", "a=b\n",
        "b:c,d;e\n", "#c\n", "!c\\\n", "\\\\", "\\=", "\\t", "\\n", "\\r", "\\x", "a", "b", "ab", "ba", "\t"};
    private static final int CALL_LIMIT = 512;
    private static final Pattern LARGE_NUMBER = Pattern.compile("u(?!00)[0-9a-fA-F]{4}");
    private static final Pattern LONE_BACKSLASH = Pattern.compile("(^|[\n\r])[ \t]*\\\\([\n\r]|$)");

    private final Random random;
    private final String name;
    private final SettingsDrawer drawer = new SettingsDrawer();
    private final Model model = new Model();
    private int calls = 0;

    private static final Map<String, Method> DRAWER_METHODS = methodsOf(SettingsDrawer.class);
    private static final Map<String, Method> MODEL_METHODS = methodsOf(Model.class);

    private RandomRunsTests(int seed) {
        random = new Random(seed);
        name = "run " + seed;
    }

    public static void main(String[] args) throws Exception {
        int runs = args.length > 0 ? Integer.parseInt(args[0]) : 1500;
        for (int seed = 0; seed < runs; seed++) {
            new RandomRunsTests(seed).run();
        }
        for (int seed = 0; seed < 20 * runs; seed++) {
            readAsProperties(new Random(seed));
        }
        Check.finish("RandomRunsTests");
    }

    private static Map<String, Method> methodsOf(Class<?> type) {
        Map<String, Method> all = new HashMap<>();
        for (Method method : type.getDeclaredMethods()) {
            if (!java.lang.reflect.Modifier.isPrivate(method.getModifiers())) {
                all.put(method.getName(), method);
            }
        }
        return all;
    }

    private int call(String method, Object... arguments) throws Exception {
        calls++;
        int want = (Integer) MODEL_METHODS.get(method).invoke(model, arguments);
        int got = (Integer) DRAWER_METHODS.get(method).invoke(drawer, arguments);
        Check.due(name + ", call " + calls + ": " + method + java.util.Arrays.toString(arguments), got, want);
        return want;
    }

    private void run() throws Exception {
        boolean full = random.nextInt(4) == 0;
        while (calls < CALL_LIMIT - 170) {
            int kind = random.nextInt(20);
            if (kind == 0) {
                typeTape();
            } else if (kind == 1) {
                fillSlot(random.nextInt(6));
            } else if (kind == 2 && full) {
                fillLayer(random.nextInt(4));
            } else if (kind == 3) {
                doubleSlot(random.nextInt(6));
            } else {
                callAny();
            }
        }
        lookAtAll();
    }

    private void callAny() throws Exception {
        String[] told = CALLS[random.nextInt(CALLS.length)].split(" ");
        List<Object> arguments = new ArrayList<>();
        for (int i = 1; i < told.length; i++) {
            arguments.add(argument(told[i].charAt(0)));
        }
        call(told[0], arguments.toArray());
    }

    private int argument(char kind) {
        if (random.nextInt(60) == 0) {
            int[] wrong = {-1, -2, 2, 3, 4, 6, 7, 256, 300, Integer.MIN_VALUE, Integer.MAX_VALUE};
            return wrong[random.nextInt(wrong.length)];
        }
        switch (kind) {
            case 's': return random.nextInt(6);
            case 'c': return random.nextInt(8) == 0 ? random.nextInt(256) : ",;ab= \t".charAt(random.nextInt(7));
            case 'p': return random.nextInt(random.nextInt(4) == 0 ? 60 : 8);
            case 'y': return TAPE_SIGNS.charAt(random.nextInt(TAPE_SIGNS.length()));
            case 'l': return random.nextInt(4);
            case 'j': return random.nextInt(3);
            default: return random.nextInt(2);
        }
    }

    private static String tape(Random random) {
        StringBuilder text = new StringBuilder();
        int pieces = random.nextInt(25);
        for (int i = 0; i < pieces; i++) {
            if (random.nextBoolean()) {
                text.append(TAPE_PIECES[random.nextInt(TAPE_PIECES.length)]);
            } else {
                text.append(TAPE_SIGNS.charAt(random.nextInt(TAPE_SIGNS.length())));
            }
        }
        return text.toString();
    }

    private void typeTape() throws Exception {
        call("wipe");
        for (char c : tape(random).toCharArray()) {
            if (calls < CALL_LIMIT - 200) {
                call("type", (int) c);
            }
        }
        call("brokenAt");
        call("load", random.nextInt(4));
    }

    private void fillSlot(int slot) throws Exception {
        call("erase", slot);
        int length = random.nextInt(8);
        for (int i = 0; i < length; i++) {
            call("append", slot, argument('c'));
        }
    }

    /** Longer texts, up to the limit of 300 characters. */
    private void doubleSlot(int slot) throws Exception {
        int times = random.nextInt(9);
        for (int i = 0; i < times; i++) {
            call("joinWithin", 0, slot, slot, slot);
            call("joined", 0, slot);
        }
    }

    private void fillLayer(int layer) throws Exception {
        call("erase", 0);
        for (int i = 0; i < 45 && calls < CALL_LIMIT - 200; i++) {
            call("append", 0, 60 + (i * 7) % 45);
            call("set", layer, 0, 0, 1);
            call("erase", 0);
        }
    }

    private void lookAtAll() throws Exception {
        for (int layer = 0; layer < 4; layer++) {
            call("size", layer);
            call("digest", layer);
            call("names", layer);
        }
        for (int slot = 0; slot < 6; slot++) {
            int length = call("length", slot);
            for (int i = 0; i < Math.min(length, 12); i++) {
                call("characterAt", slot, i);
            }
            call("characterAt", slot, length - 1);
        }
        int length = call("tapeLength");
        for (int i = 0; i < Math.min(length, 20); i++) {
            call("tapeAt", i);
        }
        for (int tokenizer = 0; tokenizer < 2; tokenizer++) {
            call("more", tokenizer);
            call("count", tokenizer);
        }
        for (int joiner = 0; joiner < 3; joiner++) {
            call("joinedLength", joiner);
        }
        call("refusals", 0);
        call("refusals", 1);
        if (calls > CALL_LIMIT) {
            Check.due(name + ": calls", calls, CALL_LIMIT);
        }
    }

    /** Where the document and java.util.Properties say the same, the program reads as Properties does. */
    private static void readAsProperties(Random random) throws Exception {
        String tape = tape(random);
        if (tape.length() > 120 || isReadOtherwise(tape)) {
            return;
        }
        SettingsDrawer x = new SettingsDrawer();
        Check.type(x, tape);
        Properties properties = new Properties();
        boolean whole = true;
        try {
            properties.load(new java.io.StringReader(tape));
        } catch (IllegalArgumentException e) {
            whole = false;
        }
        StringBuilder all = new StringBuilder();
        for (String key : new java.util.TreeSet<>(properties.stringPropertyNames())) {
            all.append(key).append('>').append(properties.getProperty(key)).append('|');
        }
        if (whole) {
            x.load(0);
            Check.dueText("entries of <" + tape + ">", Check.entries(x), all.toString());
        } else {
            Check.due("load(0) of <" + tape + ">", x.load(0), SettingsDrawer.BROKEN);
        }
    }

    /**
     * Properties makes a form feed of backslash and f, takes numbers beyond 255, and forgets that an entry goes on
     * (or makes one without characters) where a line holds a single backslash alone.
     */
    private static boolean isReadOtherwise(String tape) {
        String oneLine = tape.replaceAll("\\\\(\r\n|\r|\n)[ \t]*", "");
        return tape.contains("\\f") || LARGE_NUMBER.matcher(oneLine).find() || LONE_BACKSLASH.matcher(tape).find();
    }
}
