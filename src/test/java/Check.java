/** What the tests share: counting wrong answers, and filling and reading a drawer by its own calls. */
final class Check {
    /** So many wrong answers are printed; one cause may have thousands. */
    private static final int TOLD = 50;

    private static int wrong = 0;
    private static int asked = 0;
    private static String sentence = "";
    private static boolean sentenceTold = true;

    private Check() {
    }

    /** The sentence of the document that the answers from now on hold to; it is printed ahead of what breaks it. */
    static void sentence(String text) {
        sentence = text;
        sentenceTold = false;
    }

    static void due(String call, long got, long want) {
        asked++;
        if (got != want) {
            tellWrong(call + " answered " + got + ", due is " + want);
        }
    }

    static void dueText(String call, String got, String want) {
        asked++;
        if (got == null ? want != null : !got.equals(want)) {
            tellWrong(call + " gave " + shown(got) + ", due is " + shown(want));
        }
    }

    private static void tellWrong(String text) {
        wrong++;
        if (wrong <= TOLD) {
            if (!sentenceTold) {
                System.out.println("BROKEN: " + sentence);
                sentenceTold = true;
            }
            System.out.println(text);
        }
    }

    static void finish(String name) {
        System.out.println(name + ": " + asked + " answers, " + wrong + " wrong");
        if (wrong != 0) {
            System.exit(1);
        }
    }

    /** Puts a text into a slot; null lets it hold nothing. */
    static void put(SettingsDrawer x, int slot, String text) {
        x.forget(slot);
        if (text != null) {
            x.erase(slot);
            for (int i = 0; i < text.length(); i++) {
                x.append(slot, text.charAt(i));
            }
        }
    }

    /** Puts a text of one character, many times, into a slot. Joiner 2 doubles it, to use few calls. */
    static void putMany(SettingsDrawer x, int slot, char character, int times) {
        put(x, slot, "");
        for (char bit : Integer.toBinaryString(times).toCharArray()) {
            x.joinWithin(2, slot, slot, slot);
            x.joined(2, slot);
            if (bit == '1') {
                x.append(slot, character);
            }
        }
    }

    static String read(SettingsDrawer x, int slot) {
        int length = x.length(slot);
        if (length < 0) {
            return null;
        }
        StringBuilder text = new StringBuilder();
        for (int i = 0; i < length; i++) {
            text.append((char) x.characterAt(slot, i));
        }
        return text.toString();
    }

    static void type(SettingsDrawer x, String text) {
        for (int i = 0; i < text.length(); i++) {
            x.type(text.charAt(i));
        }
    }

    /** A text of one character, many times. */
    static String many(char character, int times) {
        return String.valueOf(character).repeat(times);
    }

    /** Sets an entry of a layer by slots 4 and 5, which hold nothing then; returns what set() answered. */
    static int entry(SettingsDrawer x, int layer, String key, String value) {
        put(x, 4, key);
        put(x, 5, value);
        int answer = x.set(layer, 4, 5, 5);
        x.forget(4);
        x.forget(5);
        return answer;
    }

    /** Sets forty entries of a layer, whose keys are 1 to 40 times a, by slots 4 and 5, which hold nothing then. */
    static void fortyEntries(SettingsDrawer x, int layer) {
        x.erase(4);
        for (int i = 0; i < 40; i++) {
            x.append(4, 'a');
            x.set(layer, 4, 4, 5);
        }
        x.forget(4);
        x.forget(5);
    }

    /** The tokens that are left, each ended by a bar, by slot 5; the tokenizer is dropped then. */
    static String tokens(SettingsDrawer x, int tokenizer) {
        StringBuilder all = new StringBuilder();
        while (x.next(tokenizer, 5) >= 0) {
            all.append(read(x, 5)).append('|');
        }
        return all.toString();
    }

    /** The value of a key that is seen from a layer, by slots 4 and 5, which hold nothing then; null if there is none. */
    static String value(SettingsDrawer x, int layer, String key) {
        put(x, 4, key);
        x.forget(5);
        x.get(layer, 4, 5);
        String value = read(x, 5);
        x.forget(4);
        x.forget(5);
        return value;
    }

    static String tape(SettingsDrawer x) {
        StringBuilder text = new StringBuilder();
        for (int i = 0; i < x.tapeLength(); i++) {
            text.append((char) x.tapeAt(i));
        }
        return text.toString();
    }

    /** A drawer whose layer 0 has read this tape. */
    static SettingsDrawer loaded(String tape) {
        SettingsDrawer x = new SettingsDrawer();
        type(x, tape);
        x.load(0);
        return x;
    }

    /** The entries of layer 0, as key>value pairs, each ended by a bar. */
    static String entries(SettingsDrawer x) {
        StringBuilder all = new StringBuilder();
        for (int i = 0; x.name(0, i, 0) >= 0; i++) {
            x.get(0, 0, 1);
            all.append(read(x, 0)).append('>').append(read(x, 1)).append('|');
        }
        return all.toString();
    }

    private static String shown(String text) {
        if (text == null) {
            return "nothing";
        }
        StringBuilder shown = new StringBuilder("\"");
        for (char c : text.toCharArray()) {
            if (c < 32 || c > 126) {
                shown.append('<').append((int) c).append('>');
            } else {
                shown.append(c);
            }
        }
        return shown.append('"').toString();
    }
}
