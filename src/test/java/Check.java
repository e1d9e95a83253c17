/** What the tests share: counting wrong answers, and filling and reading a drawer by its own calls. */
final class Check {
    /** So many wrong answers are printed; one cause may have thousands. */
    private static final int TOLD = 50;

    private static int wrong = 0;
    private static int asked = 0;

    private Check() {
    }

    static void due(String call, long got, long want) {
        asked++;
        if (got != want) {
            tellWrong(call + " answered " + got + ", due is " + want);
        }
    }

    static void dueText(String call, String got, String want) {
        asked++;
        if (got == null ? want != null : !got.equals(want)) {
            tellWrong(call + " gave " + shown(got) + ", due is " + shown(want));
        }
    }

    private static void tellWrong(String text) {
        wrong++;
        if (wrong <= TOLD) {
            System.out.println(text);
        }
    }

    static void finish(String name) {
        System.out.println(name + ": " + asked + " answers, " + wrong + " wrong");
        if (wrong != 0) {
            System.exit(1);
        }
    }

    /** Puts a text into a slot; null lets it hold nothing. */
    static void put(SettingsDrawer x, int slot, String text) {
        x.forget(slot);
        if (text != null) {
            x.erase(slot);
            for (int i = 0; i < text.length(); i++) {
                x.append(slot, text.charAt(i));
            }
        }
    }

    /** Puts a text of one character, many times, into a slot. Joiner 2 doubles it, to use few calls. */
    static void putMany(SettingsDrawer x, int slot, char character, int times) {
        put(x, slot, "");
        for (char bit : Integer.toBinaryString(times).toCharArray()) {
            x.joinWithin(2, slot, slot, slot);
            x.joined(2, slot);
            if (bit == '1') {
                x.append(slot, character);
            }
        }
    }

    static String read(SettingsDrawer x, int slot) {
        int length = x.length(slot);
        if (length < 0) {
            return null;
        }
        StringBuilder text = new StringBuilder();
        for (int i = 0; i < length; i++) {
            text.append((char) x.characterAt(slot, i));
        }
        return text.toString();
    }

    static void type(SettingsDrawer x, String text) {
        for (int i = 0; i < text.length(); i++) {
            x.type(text.charAt(i));
        }
    }

    static String tape(SettingsDrawer x) {
        StringBuilder text = new StringBuilder();
        for (int i = 0; i < x.tapeLength(); i++) {
            text.append((char) x.tapeAt(i));
        }
        return text.toString();
    }

    /** A drawer whose layer 0 has read this tape. */
    static SettingsDrawer loaded(String tape) {
        SettingsDrawer x = new SettingsDrawer();
        type(x, tape);
        x.load(0);
        return x;
    }

    /** The entries of layer 0, as key>value pairs, each ended by a bar. */
    static String entries(SettingsDrawer x) {
        StringBuilder all = new StringBuilder();
        for (int i = 0; x.name(0, i, 0) >= 0; i++) {
            x.get(0, 0, 1);
            all.append(read(x, 0)).append('>').append(read(x, 1)).append('|');
        }
        return all.toString();
    }

    private static String shown(String text) {
        if (text == null) {
            return "nothing";
        }
        StringBuilder shown = new StringBuilder("\"");
        for (char c : text.toCharArray()) {
            if (c < 32 || c > 126) {
                shown.append('<').append((int) c).append('>');
            } else {
                shown.append(c);
            }
        }
        return shown.append('"').toString();
    }
}
