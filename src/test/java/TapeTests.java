/** Promises 9 to 15: the tape, and how it is read and written. */
public final class TapeTests {
    public static void main(String[] args) {
        type();
        tapeLengthAndTapeAt();
        wipe();
        linesOfTheTape();
        entriesThatGoOn();
        keysAndValues();
        pairs();
        loadAnswers();
        loadLimits();
        brokenAt();
        brokenOrder();
        write();
        writeLimits();
        writtenIsReadAgain();
        Check.finish("TapeTests");
    }

    private static void reads(String tape, String entries) {
        SettingsDrawer x = Check.loaded(tape);
        Check.dueText("entries of <" + tape + ">", Check.entries(x), entries);
    }

    private static void breaks(String tape, int place) {
        SettingsDrawer x = new SettingsDrawer();
        Check.type(x, tape);
        Check.due("brokenAt() of <" + tape + ">", x.brokenAt(), place);
        int loaded = x.load(0);
        Check.due("load(0) of <" + tape + "> is BROKEN", loaded == SettingsDrawer.BROKEN ? 1 : 0, place >= 0 ? 1 : 0);
        if (place >= 0) {
            Check.due("size(0) after BROKEN", x.size(0), 0);
        }
    }

    private static void type() {
        SettingsDrawer x = new SettingsDrawer();
        int typed = 0;
        for (int character = -2; character < 260; character++) {
            boolean may = character == 9 || character == 10 || character == 13 || character >= 32 && character <= 126;
            Check.due("type(" + character + ")", x.type(character), may ? ++typed : SettingsDrawer.BAD);
        }
        Check.due("type(65 + 65536)", x.type(65 + 65536), SettingsDrawer.BAD);
        Check.due("tapeLength()", x.tapeLength(), 98);
        SettingsDrawer y = new SettingsDrawer();
        for (int i = 1; i <= 300; i++) {
            Check.due("type number " + i, y.type('x'), i);
        }
        Check.due("type number 301", y.type('x'), SettingsDrawer.FULL);
        Check.due("a wrong character comes before FULL", y.type(127), SettingsDrawer.BAD);
        Check.due("tapeLength() after FULL", y.tapeLength(), 300);
    }

    private static void tapeLengthAndTapeAt() {
        SettingsDrawer x = new SettingsDrawer();
        Check.due("tapeLength() at first", x.tapeLength(), 0);
        Check.due("tapeAt(0) at first", x.tapeAt(0), SettingsDrawer.NONE);
        Check.type(x, "a\t\n\r~");
        Check.due("tapeLength()", x.tapeLength(), 5);
        int[] want = {'a', 9, 10, 13, '~'};
        for (int place = 0; place < want.length; place++) {
            Check.due("tapeAt(" + place + ")", x.tapeAt(place), want[place]);
        }
        for (int place : new int[] {-1, 5, 300, Integer.MIN_VALUE, Integer.MAX_VALUE}) {
            Check.due("tapeAt(" + place + ")", x.tapeAt(place), SettingsDrawer.NONE);
        }
    }

    private static void wipe() {
        SettingsDrawer x = new SettingsDrawer();
        Check.due("wipe() of an empty tape", x.wipe(), 0);
        Check.type(x, "abc");
        Check.due("wipe()", x.wipe(), 3);
        Check.due("tapeLength() after wipe()", x.tapeLength(), 0);
        Check.due("tapeAt(0) after wipe()", x.tapeAt(0), SettingsDrawer.NONE);
        Check.due("load(0) after wipe()", x.load(0), 0);
        Check.due("type('d') after wipe()", x.type('d'), 1);
    }

    private static void linesOfTheTape() {
        reads("", "");
        reads("\n\r\r\n \t \n\t", "");
        reads("a=1\nb=2\rc=3\r\nd=4", "a>1|b>2|c>3|d>4|");
        reads("a=1\n\rb=2\n", "a>1|b>2|");
        reads("#a=1\n!b=2\n \t#c=3\n\t !d=4\ne=5", "e>5|");
        reads("#a=1\\\nb=2", "b>2|");
        reads("!a=1\\\r\nb=2", "b>2|");
        reads("a#=1!\nb!=#", "a#>1!|b!>#|");
        reads(" \t a=1", "a>1|");
        reads("a=1 \t\nb", "a>1 \t|b>|");
        reads("#", "");
        reads("#\n", "");
    }

    private static void entriesThatGoOn() {
        reads("a=1\\\n2", "a>12|");
        reads("a=1\\\n \t 2 \\\r\n 3\\\r4\nb", "a>12 34|b>|");
        reads("a=1\\\\\nb=2", "a>1\\|b>2|");
        reads("a=1\\\\\\\nb=2", "a>1\\b=2|");
        reads("a=1\\\\\\\\\nb=2", "a>1\\\\|b>2|");
        reads("a=1\\\n\nb=2", "a>1|b>2|");
        reads("a=1\\\n   \nb=2", "a>1|b>2|");
        reads("a=1\\\n#b=2\nc", "a>1#b=2|c>|");
        reads("a=1\\\n!b=2\\\n  #c", "a>1!b=2#c|");
        reads("a\\\n=1", "a>1|");
        reads("a\\\n b\\\n c", "abc>|");
        reads("a\\", "a>|");
        reads("a\\\n", "a>|");
        reads("a=1\\\r", "a>1|");
        reads("a=1\\\r\n", "a>1|");
        reads("\\", "");
        reads("\\\n", "");
        reads("  \\\n  \\\r \\", "");
        reads("\\\n\nb=1", "b>1|");
        reads("\\\n#k", "#k>|");
        reads("  \\\n = v", ">v|");
        reads("a=\\\n\\\n\\\nb", "a>b|");
        // Backslashes are counted in each line alone, not across the line end.
        reads("a=\\\n\\\\\nb", "a>\\|b>|");
        reads("a=\\\n  \\\n  b", "a>b|");
        reads("a\\\n\\ b", "a b>|");
    }

    private static void keysAndValues() {
        reads("a", "a>|");
        reads("a=", "a>|");
        reads("a:", "a>|");
        reads("a ", "a>|");
        reads("=", ">|");
        reads("=b", ">b|");
        reads(":b", ">b|");
        reads(" : b", ">b|");
        reads("a=b=c:d", "a>b=c:d|");
        reads("a:b=c", "a>b=c|");
        reads("a \t = \t b c", "a>b c|");
        reads("a\t:\tb", "a>b|");
        reads("a b=c", "a>b=c|");
        reads("a  b c", "a>b c|");
        reads("a = = b", "a>= b|");
        reads("a = : b", "a>: b|");
        reads("a == b", "a>= b|");
        reads("a\\ b\\=c\\:d\\\te=f", "a b=c:d\te>f|");
        reads("a\\\\=b", "a\\>b|");
        reads("a\\\\\\=b", "a\\=b>|");
        reads("a=\\ b", "a> b|");
        reads("a\\ ", "a >|");
        reads("\\#a=1\n\\!b=2", "!b>2|#a>1|");
        reads("\\ \\ a", "  a>|");
    }

    private static void pairs() {
        reads("\\t\\n\\r=\\t\\n\\r", "\t\n\r>\t\n\r|");
        reads("\\a\\b\\f\\0\\\"=\\T\\N\\R\\U\\x", "abf0\">TNRUx|");
        reads("\\\\=\\\\\\\\", "\\>\\\\|");
        reads("\\u0041\\u00e9=\\u00fF\\u00FfA\\u0000", "A\u00e9>\u00ff\u00ffA\u0000|");
        reads("\\u00aA=\\u00Ba\\u0099", "\u00aa>\u00ba\u0099|");
        reads("a=\\u00\\\n  41", "a>A|");
        reads("a=\\\\u00", "a>\\u00|");
        reads("a=\\u00411", "a>A1|");
        reads("\\u003d\\u0020=\\u005ct", "= >\\t|");
        reads("\\u000aa=b", "\na>b|");
    }

    private static void loadAnswers() {
        SettingsDrawer x = new SettingsDrawer();
        Check.type(x, "b=1\na=2\nb=3\n");
        Check.due("load(-1)", x.load(-1), SettingsDrawer.BAD);
        Check.due("load(4)", x.load(4), SettingsDrawer.BAD);
        Check.due("load(0)", x.load(0), 3);
        Check.due("size(0)", x.size(0), 2);
        Check.dueText("the tape stays", Check.tape(x), "b=1\na=2\nb=3\n");
        Check.dueText("the last value stands", Check.entries(x), "a>2|b>3|");
        x.wipe();
        Check.type(x, "b=4\nc=5");
        Check.due("load(0) again", x.load(0), 2);
        Check.dueText("entries are put into the layer", Check.entries(x), "a>2|b>4|c>5|");
        Check.due("load(3)", x.load(3), 2);
        Check.due("size(3)", x.size(3), 2);
        Check.due("size(1)", x.size(1), 0);
        x.wipe();
        Check.type(x, "d=1\ne=\\u12");
        Check.due("load(0) of a broken tape", x.load(0), SettingsDrawer.BROKEN);
        Check.due("load(4) of a broken tape", x.load(4), SettingsDrawer.BAD);
        Check.due("size(0) after BROKEN", x.size(0), 3);
    }

    private static void loadLimits() {
        SettingsDrawer x = new SettingsDrawer();
        for (char key = '0'; key < '0' + 42; key++) {
            if (key != ':' && key != '=') {
                x.type(key);
                x.type('\n');
            }
        }
        Check.due("load(0) of forty entries", x.load(0), 40);
        Check.due("load(0) of the same forty", x.load(0), 40);
        Check.due("size(0)", x.size(0), 40);
        int digest = x.digest(0);
        Check.type(x, "0=1\n");
        Check.due("load(0) of forty keys, one twice", x.load(0), 41);
        int changed = x.digest(0);
        Check.due("a value was put", changed == digest ? 0 : 1, 1);
        Check.type(x, "1=1\nz=\n");
        Check.due("load(0) of forty-one keys", x.load(0), SettingsDrawer.FULL);
        Check.due("digest(0) after FULL", x.digest(0), changed);
        Check.due("load(1) of forty-one keys", x.load(1), SettingsDrawer.FULL);
        Check.due("size(1) after FULL", x.size(1), 0);
        Check.type(x, "\\u");
        Check.due("BROKEN comes before FULL", x.load(0), SettingsDrawer.BROKEN);
        SettingsDrawer y = new SettingsDrawer();
        for (int i = 0; i < 150; i++) {
            y.type('a');
            y.type('\n');
        }
        Check.due("load(0) of 150 entries of one key", y.load(0), 150);
        Check.due("size(0) of 150 entries of one key", y.size(0), 1);
        SettingsDrawer z = new SettingsDrawer();
        Check.type(z, "a".repeat(300));
        Check.due("load(0) of a key of 300", z.load(0), 1);
        Check.due("name(0, 0, 0)", z.name(0, 0, 0), 300);
    }

    private static void brokenAt() {
        breaks("", SettingsDrawer.NONE);
        breaks("a=1", SettingsDrawer.NONE);
        breaks("\\u", 0);
        breaks("\\u0", 0);
        breaks("\\u004", 0);
        breaks("\\u0041", SettingsDrawer.NONE);
        breaks("a\\u00g1", 1);
        breaks("a\\u00G1", 1);
        breaks("a\\u0:41", 1);
        breaks("a\\u00/1", 1);
        breaks("a\\u00@1", 1);
        breaks("a\\u00`1", 1);
        breaks("a\\u -41", 1);
        breaks("a\\u00ff", SettingsDrawer.NONE);
        breaks("a\\u00FF", SettingsDrawer.NONE);
        breaks("a\\u0100", 1);
        breaks("a\\u1000", 1);
        breaks("a\\uffff", 1);
        breaks("a\\u00=41", 1);
        breaks("a\\u00 41", 1);
        breaks("a=\\u00 41", 2);
        breaks("a=\\u00\\41", 2);
        breaks("a\\u=0041", 1);
        breaks("a\\\\u00=41", SettingsDrawer.NONE);
        breaks("#\\u\n!\\u\n  #\\u", SettingsDrawer.NONE);
        breaks("a=b\\u00\n41", 3);
        breaks("a=b\\u00\\\n41", SettingsDrawer.NONE);
        breaks("a=\\\\\\u1", 4);
        breaks("a=\\\n  \\u1", 6);
        breaks("a\\\n\\u00g0", 3);
        breaks("a=\\u00e\\", 2);
    }

    private static void brokenOrder() {
        breaks("a\\u1=\\u2\nb\\u3", 1);
        breaks("a\\u0041=\\u2\nb\\u3", 8);
        breaks("a=1\nb=2\\u0041\\u2\n\\u3", 13);
        breaks("a=1\\u\\u", 3);
        SettingsDrawer x = new SettingsDrawer();
        Check.type(x, "a=\\u00");
        Check.due("brokenAt() ahead of the digits", x.brokenAt(), 2);
        Check.type(x, "41");
        Check.due("brokenAt() behind the digits", x.brokenAt(), SettingsDrawer.NONE);
        Check.due("brokenAt() leaves the tape", x.tapeLength(), 8);
        Check.due("brokenAt() leaves the layers", x.names(3), 0);
    }

    private static void write() {
        SettingsDrawer x = new SettingsDrawer();
        Check.type(x, "old");
        Check.due("write(-1)", x.write(-1), SettingsDrawer.BAD);
        Check.due("write(4)", x.write(4), SettingsDrawer.BAD);
        Check.dueText("the tape after BAD", Check.tape(x), "old");
        Check.due("write(1) of no entries", x.write(1), 0);
        Check.due("tapeLength()", x.tapeLength(), 0);
        String signs = "\t\n\r\\=:#! aZ~}\"'/\u0000\u001f\u007f\u0080\u00af\u00ff\f";
        Check.put(x, 0, signs);
        x.erase(1);
        x.set(2, 0, 1, 2);
        x.set(2, 1, 0, 2);
        Check.put(x, 3, "a");
        x.set(1, 3, 3, 2);
        String told = "\\t\\n\\r\\\\\\=\\:\\#\\!\\ aZ~}\"'/\\u0000\\u001f\\u007f\\u0080\\u00af\\u00ff\\u000c";
        String want = "=" + told + "\n" + told + "=\n";
        Check.due("write(2)", x.write(2), want.length());
        Check.dueText("the tape", Check.tape(x), want);
    }

    private static void writeLimits() {
        SettingsDrawer x = new SettingsDrawer();
        Check.type(x, "old");
        Check.put(x, 0, "k");
        Check.putMany(x, 1, 'v', 297);
        x.set(0, 0, 1, 2);
        Check.due("write(0) of 300 characters", x.write(0), 300);
        x.wipe();
        Check.type(x, "old");
        x.append(1, 'v');
        x.set(0, 0, 1, 2);
        Check.due("BAD comes before FULL", x.write(4), SettingsDrawer.BAD);
        Check.due("write(0) of 301 characters", x.write(0), SettingsDrawer.FULL);
        Check.dueText("the tape after FULL", Check.tape(x), "old");
        Check.putMany(x, 1, '=', 148);
        x.set(0, 0, 1, 2);
        Check.due("write(0) of 148 pairs", x.write(0), 299);
        Check.putMany(x, 1, '=', 149);
        x.set(0, 0, 1, 2);
        Check.due("write(0) of 149 pairs", x.write(0), SettingsDrawer.FULL);
        Check.putMany(x, 1, (char) 200, 49);
        x.set(0, 0, 1, 2);
        Check.due("write(0) of 49 numbers", x.write(0), 297);
        Check.putMany(x, 1, (char) 200, 50);
        x.set(0, 0, 1, 2);
        Check.due("write(0) of 50 numbers", x.write(0), SettingsDrawer.FULL);
        Check.due("tapeLength() after FULL", x.tapeLength(), 297);
    }

    private static void writtenIsReadAgain() {
        SettingsDrawer x = Check.loaded("#c\n \\ k\\=1 : v\\\\ 1 \n\\u00e9\\t=\\n#\\r\nx\n=y\n");
        Check.due("size(0)", x.size(0), 4);
        x.write(0);
        Check.dueText("the tape", Check.tape(x), "=y\n\\ k\\=1=v\\\\\\ 1\\ \nx=\n\\u00e9\\t=\\n\\#\\r\n");
        Check.due("load(1)", x.load(1), 4);
        Check.due("alike(0, 1)", x.alike(0, 1), 1);
        for (int from = 0; from < 256; from += 20) {
            SettingsDrawer y = new SettingsDrawer();
            StringBuilder text = new StringBuilder();
            for (int c = from; c < Math.min(256, from + 20); c++) {
                text.append((char) c);
            }
            Check.put(y, 0, text.toString());
            y.set(0, 0, 0, 1);
            y.write(0);
            Check.due("load(1) of characters from " + from, y.load(1), 1);
            Check.due("alike(0, 1) of characters from " + from, y.alike(0, 1), 1);
        }
    }
}
