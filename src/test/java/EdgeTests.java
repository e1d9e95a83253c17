/** Promises 1 to 28, sentence by sentence: the edges that each of them names. ErrorTests has their errors, in a table. */
public final class EdgeTests {
    private static final int NONE = SettingsDrawer.NONE;
    private static final int NOTHING = SettingsDrawer.NOTHING;
    private static final int FULL = SettingsDrawer.FULL;
    private static final int NULL_POINTER = SettingsDrawer.NULL_POINTER;
    private static final int[] BOTH_ENDS = {Integer.MIN_VALUE, Integer.MAX_VALUE};

    public static void main(String[] args) {
        newObject();
        eraseAndForget();
        append();
        lengthAndCharacterAt();
        copyAndSame();
        typeAndTapeAt();
        wipe();
        load();
        loadFull();
        brokenAt();
        write();
        writeFull();
        get();
        getOr();
        hasAndLayerOf();
        set();
        setFull();
        drop();
        emptyAndSize();
        names();
        name();
        keyFrom();
        alike();
        digest();
        lastCall();
        Check.finish("EdgeTests");
    }

    private static void newObject() {
        Check.sentence("Creates a drawer with empty slots, tape and layers, and without tokenizers, joiners and images.");
        SettingsDrawer x = new SettingsDrawer();
        Check.due("length(0)", x.length(0), NOTHING);
        Check.due("length(5)", x.length(5), NOTHING);
        Check.due("tapeLength()", x.tapeLength(), 0);
        Check.due("names(3)", x.names(3), 0);
        Check.due("count(0)", x.count(0), SettingsDrawer.NOT_MADE);
        Check.due("count(1)", x.count(1), SettingsDrawer.NOT_MADE);
        Check.due("joinedLength(0)", x.joinedLength(0), SettingsDrawer.NOT_MADE);
        Check.due("joinedLength(2)", x.joinedLength(2), SettingsDrawer.NOT_MADE);
        Check.due("restore(0)", x.restore(0), SettingsDrawer.NOT_MADE);
        Check.due("restore(1)", x.restore(1), SettingsDrawer.NOT_MADE);
        Check.due("refusals(0)", x.refusals(0), 0);
        Check.due("refusals(1)", x.refusals(1), 0);
    }

    private static void eraseAndForget() {
        Check.sentence("Returns the length of the text that it held; BAD; NOTHING if it held nothing (it holds the empty text then).");
        SettingsDrawer x = new SettingsDrawer();
        Check.due("erase of nothing", x.erase(0), NOTHING);
        Check.due("erase of the empty text", x.erase(0), 0);
        Check.due("length(0)", x.length(0), 0);
        Check.putMany(x, 0, 'a', 300);
        Check.due("erase of 300 characters", x.erase(0), 300);
        Check.due("append then", x.append(0, 'a'), 1);
        Check.sentence("Returns the length of the text that it held; BAD; NOTHING if it held nothing.");
        Check.due("forget of nothing", x.forget(5), NOTHING);
        Check.due("forget of nothing again", x.forget(5), NOTHING);
        x.erase(5);
        Check.due("forget of the empty text", x.forget(5), 0);
        Check.due("length(5)", x.length(5), NOTHING);
        Check.putMany(x, 5, 'a', 300);
        Check.due("forget of 300 characters", x.forget(5), 300);
        Check.due("length(5)", x.length(5), NOTHING);
    }

    private static void append() {
        Check.sentence("Returns the length of the text then; BAD; NOTHING; FULL.");
        SettingsDrawer x = new SettingsDrawer();
        Check.due("append to nothing", x.append(0, 'a'), NOTHING);
        x.erase(0);
        Check.due("append to the empty text", x.append(0, 0), 1);
        Check.due("append(0, 255)", x.append(0, 255), 2);
        Check.putMany(x, 0, 'a', 299);
        Check.due("append to 299", x.append(0, 255), 300);
        Check.due("append to 300", x.append(0, 0), FULL);
        Check.due("append(0, 256) to 300", x.append(0, 256), SettingsDrawer.BAD);
        Check.due("length(0)", x.length(0), 300);
        Check.due("characterAt(0, 299)", x.characterAt(0, 299), 255);
    }

    private static void lengthAndCharacterAt() {
        Check.sentence("Returns the character there; BAD if there is no such slot; NOTHING; NONE if the text has no such index.");
        SettingsDrawer x = new SettingsDrawer();
        Check.due("characterAt(0, 0) of nothing", x.characterAt(0, 0), NOTHING);
        x.erase(0);
        Check.due("characterAt(0, 0) of the empty text", x.characterAt(0, 0), NONE);
        x.append(0, 'a');
        Check.due("characterAt(0, 0)", x.characterAt(0, 0), 'a');
        Check.due("characterAt(0, 1)", x.characterAt(0, 1), NONE);
        Check.due("characterAt(0, -1)", x.characterAt(0, -1), NONE);
        Check.putMany(x, 0, 'b', 299);
        x.append(0, 255);
        Check.due("length(0) of the longest text", x.length(0), 300);
        Check.due("characterAt(0, 0)", x.characterAt(0, 0), 'b');
        Check.due("characterAt(0, 299)", x.characterAt(0, 299), 255);
        Check.due("characterAt(0, 300)", x.characterAt(0, 300), NONE);
        for (int place : BOTH_ENDS) {
            Check.due("characterAt(0, " + place + ")", x.characterAt(0, place), NONE);
        }
    }

    private static void copyAndSame() {
        Check.sentence("Returns the length of the text; BAD; NOTHING if from holds nothing (to holds nothing then).");
        SettingsDrawer x = new SettingsDrawer();
        x.erase(1);
        Check.due("copy of the empty text onto nothing", x.copy(1, 0), 0);
        Check.due("length(0)", x.length(0), 0);
        Check.due("copy of nothing onto the empty text", x.copy(2, 1), NOTHING);
        Check.due("length(1)", x.length(1), NOTHING);
        Check.due("copy of nothing onto nothing", x.copy(2, 1), NOTHING);
        Check.putMany(x, 3, 'a', 300);
        Check.due("copy of 300 characters", x.copy(3, 4), 300);
        Check.due("copy onto itself", x.copy(3, 3), 300);
        Check.sentence("Returns 1 if their texts are equal, or both hold nothing; otherwise 0; BAD.");
        Check.due("same of both nothing", x.same(1, 2), 1);
        Check.due("same of a slot that holds nothing and itself", x.same(1, 1), 1);
        Check.due("same of nothing and the empty text", x.same(1, 0), 0);
        Check.due("same of the empty text and nothing", x.same(0, 1), 0);
        Check.due("same of the empty text and itself", x.same(0, 0), 1);
        Check.due("same of 300 equal characters", x.same(3, 4), 1);
        Check.due("same of 300 characters and nothing", x.same(3, 1), 0);
        Check.due("same of 300 characters and the empty text", x.same(0, 3), 0);
        Check.putMany(x, 3, 'a', 299);
        Check.due("same of 299 and 300", x.same(3, 4), 0);
        x.append(3, 'b');
        Check.due("same of texts with another last character", x.same(3, 4), 0);
        Check.put(x, 0, "ba");
        Check.put(x, 1, "aa");
        Check.due("same of texts with another first character", x.same(0, 1), 0);
    }

    private static void typeAndTapeAt() {
        Check.sentence("Returns the length of the tape then; BAD; FULL.");
        SettingsDrawer x = new SettingsDrawer();
        for (int typed = 1; typed <= 300; typed++) {
            Check.due("type number " + typed, x.type(typed == 300 ? '~' : ' '), typed);
        }
        Check.due("type number 301", x.type('a'), FULL);
        Check.due("type(8) on a full tape", x.type(8), SettingsDrawer.BAD);
        Check.sentence("Returns the length of the tape.");
        Check.due("tapeLength()", x.tapeLength(), 300);
        Check.sentence("Returns the character there; NONE if the tape has no such index.");
        Check.due("tapeAt(0)", x.tapeAt(0), ' ');
        Check.due("tapeAt(299)", x.tapeAt(299), '~');
        Check.due("tapeAt(300)", x.tapeAt(300), NONE);
        Check.due("tapeAt(-1)", x.tapeAt(-1), NONE);
        for (int place : BOTH_ENDS) {
            Check.due("tapeAt(" + place + ")", x.tapeAt(place), NONE);
        }
        SettingsDrawer y = new SettingsDrawer();
        Check.due("tapeAt(0) of the empty tape", y.tapeAt(0), NONE);
        y.type(13);
        Check.due("tapeAt(0)", y.tapeAt(0), 13);
        Check.due("tapeAt(1)", y.tapeAt(1), NONE);
    }

    private static void wipe() {
        Check.sentence("Returns the length that it had.");
        SettingsDrawer x = new SettingsDrawer();
        Check.due("wipe() of the empty tape", x.wipe(), 0);
        x.type('a');
        Check.due("wipe() of one character", x.wipe(), 1);
        Check.due("wipe() again", x.wipe(), 0);
        Check.type(x, Check.many('\n', 300));
        Check.due("wipe() of a full tape", x.wipe(), 300);
        Check.due("type('a') then", x.type('a'), 1);
        Check.due("tapeAt(1)", x.tapeAt(1), NONE);
    }

    private static void load() {
        Check.sentence("Returns the number of entries that were read (a key that is told several times counts several times);");
        SettingsDrawer x = new SettingsDrawer();
        Check.due("load(0) of the empty tape", x.load(0), 0);
        Check.type(x, "\n#c\n \\\n");
        Check.due("load(0) of skipped lines", x.load(0), 0);
        Check.type(x, "\na=1\na=2\nb\na=3");
        Check.due("load(0)", x.load(0), 4);
        Check.due("size(0)", x.size(0), 2);
        Check.dueText("a", Check.value(x, 0, "a"), "3");
        Check.sentence("the entries are put into it in their order, a value in place of the one that its key had.");
        Check.entry(x, 1, "a", "before");
        Check.entry(x, 1, "c", "before");
        Check.due("load(1)", x.load(1), 4);
        Check.due("size(1)", x.size(1), 3);
        Check.dueText("a", Check.value(x, 1, "a"), "3");
        Check.dueText("c stays", Check.value(x, 1, "c"), "before");
        Check.sentence("The tape stays.");
        Check.dueText("the tape", Check.tape(x), "\n#c\n \\\n\na=1\na=2\nb\na=3");
        Check.due("load(3) of the same tape", x.load(3), 4);
        Check.due("alike(0, 3)", x.alike(0, 3), 1);
    }

    /** Types as many different keys of one or two characters. */
    private static void typeKeys(SettingsDrawer x, int keys) {
        for (int i = 0; i < keys; i++) {
            x.type('A' + i % 26);
            if (i >= 26) {
                x.type('a');
            }
            x.type('\n');
        }
    }

    private static void loadFull() {
        Check.sentence("FULL if the layer would hold more than 40 entries (the layer is unchanged then).");
        SettingsDrawer x = new SettingsDrawer();
        typeKeys(x, 40);
        Check.due("load(0) of 40 keys", x.load(0), 40);
        Check.due("load(0) of the same 40 keys", x.load(0), 40);
        Check.due("size(0)", x.size(0), 40);
        x.type('z');
        Check.due("load(1) of 41 keys", x.load(1), FULL);
        Check.due("size(1)", x.size(1), 0);
        Check.due("load(0) of the forty-first key", x.load(0), FULL);
        x.wipe();
        Check.type(x, "A=changed\nnew=");
        int digest = x.digest(0);
        Check.due("load(0) of a key that it has, and a new one", x.load(0), FULL);
        Check.due("digest(0)", x.digest(0), digest);
        Check.dueText("A stays", Check.value(x, 0, "A"), "");
        x.wipe();
        Check.type(x, "A=1\nA=2\nB=3");
        Check.due("load(0) of keys that it has", x.load(0), 3);
        Check.dueText("A", Check.value(x, 0, "A"), "2");
        SettingsDrawer y = new SettingsDrawer();
        typeKeys(y, 39);
        y.load(2);
        y.wipe();
        Check.type(y, "z=1\nz=2\nA=3");
        Check.due("load(2) of the fortieth key, told twice", y.load(2), 3);
        Check.due("size(2)", y.size(2), 40);
        SettingsDrawer z = new SettingsDrawer();
        typeKeys(z, 39);
        z.load(2);
        z.wipe();
        Check.type(z, "y\nz");
        Check.due("load(2) of the fortieth and the forty-first key", z.load(2), FULL);
        Check.due("size(2)", z.size(2), 39);
        z.wipe();
        Check.type(z, "y\nz=\\u");
        Check.due("BROKEN comes first", z.load(2), SettingsDrawer.BROKEN);
    }

    private static void brokenAt() {
        Check.sentence("Returns the index of the backslash at which the tape, as it is now, is broken; NONE if it is not broken.");
        SettingsDrawer x = new SettingsDrawer();
        Check.due("brokenAt() of the empty tape", x.brokenAt(), NONE);
        x.type('\\');
        Check.due("brokenAt() of a backslash", x.brokenAt(), NONE);
        x.type('u');
        Check.due("brokenAt() of backslash and u", x.brokenAt(), 0);
        for (int i = 0; i < 3; i++) {
            x.type('0');
            Check.due("brokenAt() ahead of the fourth digit", x.brokenAt(), 0);
        }
        x.type('0');
        Check.due("brokenAt() behind the fourth digit", x.brokenAt(), NONE);
        Check.type(x, "=\\u1");
        Check.due("brokenAt() of the next pair", x.brokenAt(), 7);
        x.load(0);
        Check.due("brokenAt() after load(0)", x.brokenAt(), 7);
        x.wipe();
        Check.due("brokenAt() of the wiped tape", x.brokenAt(), NONE);
        Check.type(x, "a\\u");
        Check.entry(x, 0, "\\u", "\\u\u0001");
        Check.due("brokenAt() ahead of write(0)", x.brokenAt(), 1);
        x.write(0);
        Check.due("brokenAt() of a written tape", x.brokenAt(), NONE);
        SettingsDrawer y = new SettingsDrawer();
        Check.type(y, Check.many('\n', 298) + "\\u");
        Check.due("brokenAt() at the end of a full tape", y.brokenAt(), 298);
    }

    private static void write() {
        Check.sentence("Writes the entries of a layer itself, in ascending order of their keys, onto the tape, in place of what the "
            + "tape holds.");
        SettingsDrawer x = new SettingsDrawer();
        Check.type(x, Check.many('x', 100));
        Check.due("write(2) of an empty layer", x.write(2), 0);
        Check.due("tapeLength()", x.tapeLength(), 0);
        Check.entry(x, 2, "b", "2");
        Check.entry(x, 2, "a", "1");
        Check.entry(x, 2, "", "0");
        Check.entry(x, 2, "B", "");
        Check.entry(x, 1, "lower", "");
        Check.entry(x, 3, "upper", "");
        Check.type(x, "old");
        Check.due("write(2)", x.write(2), 14);
        Check.dueText("the tape", Check.tape(x), "=0\nB=\na=1\nb=2\n");
        Check.due("write(2) again", x.write(2), 14);
    }

    private static void writeFull() {
        Check.sentence("Returns the length of the tape then; BAD; FULL (the tape is unchanged then).");
        char[] signs = {'v', '=', '\n', '\u0001', '\u007f'};
        int[] lengths = {1, 2, 2, 6, 6};
        for (int i = 0; i < signs.length; i++) {
            SettingsDrawer x = new SettingsDrawer();
            int fitting = 297 / lengths[i];
            Check.put(x, 0, Check.many('k', 1 + 297 % lengths[i]));
            Check.putMany(x, 1, signs[i], fitting);
            x.set(0, 0, 1, 2);
            Check.due("write(0) of 300", x.write(0), 300);
            x.wipe();
            Check.type(x, "old");
            x.append(0, 'k');
            x.set(1, 0, 1, 2);
            Check.due("write(1) of 301", x.write(1), FULL);
            Check.dueText("the tape", Check.tape(x), "old");
            Check.due("write(0) of 300", x.write(0), 300);
        }
    }

    // ---- layers

    private static void get() {
        Check.sentence("Returns the length of the value; BAD; NULL_POINTER if key holds nothing; NONE if there is no entry.");
        SettingsDrawer x = new SettingsDrawer();
        x.erase(0);
        Check.due("get of the empty key, no entries", x.get(3, 0, 1), NONE);
        Check.due("length(1)", x.length(1), NOTHING);
        Check.entry(x, 0, "", "of the empty key");
        Check.due("get of the empty key", x.get(3, 0, 1), 16);
        Check.entry(x, 3, "", "");
        Check.due("get of the empty key with an empty value", x.get(3, 0, 1), 0);
        Check.due("length(1)", x.length(1), 0);
        Check.sentence("A key that is null is handed to TreeMap.get(), which throws a NullPointerException.");
        Check.due("get of nothing", x.get(3, 5, 1), NULL_POINTER);
        Check.due("get of nothing, in an empty layer", new SettingsDrawer().get(0, 5, 1), NULL_POINTER);
        Check.due("refusals(0)", x.refusals(0), 1);
        Check.putMany(x, 0, 'k', 300);
        Check.putMany(x, 1, 'v', 300);
        x.set(1, 0, 1, 2);
        Check.due("get of the longest texts", x.get(2, 0, 3), 300);
        Check.due("same(1, 3)", x.same(1, 3), 1);
        Check.putMany(x, 0, 'k', 299);
        Check.due("get of a key that is one shorter", x.get(2, 0, 3), NONE);
    }

    private static void getOr() {
        Check.sentence("(whether that holds one is looked at in this case alone; a number that is no slot is BAD in any case)");
        SettingsDrawer x = Check.loaded("k=v");
        Check.put(x, 0, "k");
        Check.due("getOr of an entry, the other holds nothing", x.getOr(0, 0, 5, 1), 1);
        Check.due("getOr of an entry, the other is no slot", x.getOr(0, 0, 6, 1), SettingsDrawer.BAD);
        Check.due("getOr of an entry, the other is -1", x.getOr(0, 0, -1, 1), SettingsDrawer.BAD);
        Check.put(x, 0, "absent");
        Check.due("getOr without an entry, the other is no slot", x.getOr(0, 0, 6, 1), SettingsDrawer.BAD);
        Check.sentence("NOTHING if there is no entry, and other holds nothing.");
        Check.due("getOr without an entry, the other holds nothing", x.getOr(0, 0, 5, 1), NOTHING);
        Check.dueText("slot 1", Check.read(x, 1), "v");
        x.erase(2);
        Check.due("getOr without an entry, the other is empty", x.getOr(0, 0, 2, 1), 0);
        Check.dueText("slot 1", Check.read(x, 1), "");
        Check.due("getOr, the other is the key", x.getOr(0, 0, 0, 1), 6);
        Check.due("getOr of an upper layer without entries", x.getOr(3, 0, 0, 1), 6);
        Check.sentence("NULL_POINTER if key holds nothing (by TreeMap.get());");
        Check.due("getOr, both hold nothing", x.getOr(0, 5, 5, 1), NULL_POINTER);
        Check.due("refusals(0)", x.refusals(0), 1);
        Check.putMany(x, 2, 'o', 300);
        Check.due("getOr, the other has 300 characters", x.getOr(0, 0, 2, 1), 300);
    }

    private static void hasAndLayerOf() {
        Check.sentence("Tells whether a layer itself has a key.");
        SettingsDrawer x = new SettingsDrawer();
        Check.entry(x, 1, "k", "");
        Check.put(x, 0, "k");
        int[] has = {0, 1, 0, 0};
        int[] layerOf = {NONE, 1, 1, 1};
        for (int layer = 0; layer < 4; layer++) {
            Check.due("has(" + layer + ", 0)", x.has(layer, 0), has[layer]);
            Check.due("layerOf(" + layer + ", 0)", x.layerOf(layer, 0), layerOf[layer]);
        }
        x.erase(1);
        Check.due("has(1, the empty key)", x.has(1, 1), 0);
        Check.entry(x, 0, "", "");
        Check.due("has(0, the empty key)", x.has(0, 1), 1);
        Check.sentence("Returns the layer; BAD; NULL_POINTER if key holds nothing (by TreeMap.containsKey()); NONE if there is no entry.");
        Check.due("layerOf(3, the empty key)", x.layerOf(3, 1), 0);
        Check.due("layerOf(0, the empty key)", x.layerOf(0, 1), 0);
        Check.due("layerOf(3, nothing)", x.layerOf(3, 5), NULL_POINTER);
        Check.due("has(3, nothing)", x.has(3, 5), NULL_POINTER);
        Check.due("refusals(0)", x.refusals(0), 2);
        Check.put(x, 1, "kk");
        Check.due("layerOf(3, kk)", x.layerOf(3, 1), NONE);
        Check.entry(x, 3, "kk", "");
        Check.due("layerOf(3, kk)", x.layerOf(3, 1), 3);
        Check.due("layerOf(2, kk)", x.layerOf(2, 1), NONE);
    }

    private static void set() {
        Check.sentence("and puts the previous value of this layer itself into a slot (nothing, if it had no such entry).");
        SettingsDrawer x = new SettingsDrawer();
        Check.entry(x, 0, "k", "lower");
        Check.put(x, 0, "k");
        Check.put(x, 1, "");
        Check.put(x, 2, "held before");
        Check.due("set(1, k, the empty text)", x.set(1, 0, 1, 2), 1);
        Check.due("length(2): a lower layer's value is none", x.length(2), NOTHING);
        Check.put(x, 1, "v");
        Check.due("set(1, k, v)", x.set(1, 0, 1, 2), 1);
        Check.due("length(2): the empty value was one", x.length(2), 0);
        Check.due("set(1, k, v) again", x.set(1, 0, 1, 2), 1);
        Check.dueText("slot 2", Check.read(x, 2), "v");
        Check.dueText("the lower layer stays", Check.value(x, 0, "k"), "lower");
        x.erase(3);
        Check.due("set of the empty key", x.set(1, 3, 3, 2), 2);
        Check.due("length(2)", x.length(2), NOTHING);
        Check.putMany(x, 3, 'x', 300);
        Check.due("set of the longest texts", x.set(1, 3, 3, 2), 3);
        Check.due("set of the longest texts again", x.set(1, 3, 3, 2), 3);
        Check.due("same(3, 2)", x.same(3, 2), 1);
        Check.sentence("NOTHING if value holds nothing; NULL_POINTER if key holds nothing (by TreeMap.containsKey());");
        Check.due("set(1, nothing, nothing)", x.set(1, 5, 5, 2), NOTHING);
        Check.due("refusals(0)", x.refusals(0), 0);
        Check.due("set(1, nothing, v)", x.set(1, 5, 1, 2), NULL_POINTER);
        Check.due("refusals(0)", x.refusals(0), 1);
        Check.due("size(1)", x.size(1), 3);
    }

    private static void setFull() {
        Check.sentence("FULL if the key would be the forty-first one.");
        SettingsDrawer x = new SettingsDrawer();
        Check.fortyEntries(x, 0);
        Check.due("size(0)", x.size(0), 40);
        Check.put(x, 0, "b");
        Check.put(x, 1, "a");
        Check.put(x, 2, "held before");
        int digest = x.digest(0);
        Check.due("set of the forty-first key", x.set(0, 0, 1, 2), FULL);
        Check.dueText("slot 2", Check.read(x, 2), "held before");
        Check.due("digest(0)", x.digest(0), digest);
        Check.due("set of a key that it has", x.set(0, 1, 0, 2), 40);
        Check.dueText("slot 2", Check.read(x, 2), "a");
        Check.due("drop of this key", x.drop(0, 1, 2), 39);
        Check.due("set of the fortieth key", x.set(0, 0, 1, 2), 40);
        Check.due("set of the forty-first key", x.set(0, 1, 1, 2), FULL);
        Check.due("set in another layer", x.set(3, 1, 1, 2), 1);
    }

    private static void drop() {
        Check.sentence("Returns the number of entries of the layer then; BAD; NULL_POINTER if key holds nothing (by TreeMap.remove()); "
            + "NONE if the layer itself has no such entry.");
        SettingsDrawer x = Check.loaded("a=1\nb=2\nc=3\nd=\n=0");
        x.load(1);
        Check.put(x, 0, "b");
        Check.put(x, 2, "held before");
        Check.due("drop of a lower layer's key", x.drop(2, 0, 2), NONE);
        Check.dueText("slot 2", Check.read(x, 2), "held before");
        Check.due("drop of nothing, no entries", x.drop(2, 5, 2), NULL_POINTER);
        String[] keys = {"d", "", "b", "a", "c"};
        String[] values = {"", "0", "2", "1", "3"};
        for (int i = 0; i < keys.length; i++) {
            Check.put(x, 0, keys[i]);
            Check.due("drop(1, " + keys[i] + ")", x.drop(1, 0, 2), 4 - i);
            Check.dueText("slot 2", Check.read(x, 2), values[i]);
            Check.due("drop(1, " + keys[i] + ") again", x.drop(1, 0, 2), NONE);
            Check.due("has(0, " + keys[i] + ")", x.has(0, 0), 1);
        }
        Check.due("digest(1) without entries", x.digest(1), 7);
        SettingsDrawer y = new SettingsDrawer();
        Check.fortyEntries(y, 0);
        Check.put(y, 0, Check.many('a', 40));
        Check.due("drop of the highest of forty", y.drop(0, 0, 1), 39);
        Check.put(y, 0, "a");
        Check.due("drop of the lowest of thirty-nine", y.drop(0, 0, 1), 38);
        Check.due("name(0, 37, 1)", y.name(0, 37, 1), 39);
        Check.due("name(0, 0, 1)", y.name(0, 0, 1), 2);
        Check.due("name(0, 38, 1)", y.name(0, 38, 1), NONE);
    }

    private static void emptyAndSize() {
        Check.sentence("Returns the number of entries that it had; BAD.");
        SettingsDrawer x = new SettingsDrawer();
        Check.due("empty(0) of no entries", x.empty(0), 0);
        Check.fortyEntries(x, 0);
        Check.fortyEntries(x, 3);
        Check.sentence("Returns the number of entries of the layer itself; BAD.");
        int[] sizes = {40, 0, 0, 40};
        for (int layer = 0; layer < 4; layer++) {
            Check.due("size(" + layer + ")", x.size(layer), sizes[layer]);
        }
        Check.sentence("Removes all entries of a layer itself.");
        Check.due("empty(3) of forty", x.empty(3), 40);
        Check.due("empty(3) again", x.empty(3), 0);
        Check.due("size(3)", x.size(3), 0);
        Check.due("size(0)", x.size(0), 40);
        Check.due("set after empty", Check.entry(x, 3, "b", ""), 1);
        Check.due("names(3)", x.names(3), 41);
    }

    /** Four full layers: keys 0 to 159, the lowest in layer 3, the highest in layer 0. */
    private static SettingsDrawer fullLayers() {
        SettingsDrawer x = new SettingsDrawer();
        for (int i = 0; i < 160; i++) {
            x.erase(0);
            x.append(0, 159 - i);
            x.set(i / 40, 0, 0, 1);
        }
        return x;
    }

    private static void names() {
        Check.sentence("Returns the number of names that are seen from the layer; BAD.");
        SettingsDrawer none = new SettingsDrawer();
        SettingsDrawer x = fullLayers();
        for (int layer = 0; layer < 4; layer++) {
            Check.due("names(" + layer + ") of no entries", none.names(layer), 0);
            Check.due("names(" + layer + ") of full layers", x.names(layer), 40 * (layer + 1));
        }
        SettingsDrawer alike = new SettingsDrawer();
        Check.type(alike, "\na\nb\n");
        for (int layer = 0; layer < 4; layer++) {
            alike.load(layer);
            Check.due("names(3) with the same in layer " + layer, alike.names(3), 2);
        }
        Check.entry(alike, 3, "c", "");
        Check.due("names(2) without what an upper layer has", alike.names(2), 2);
    }

    private static void name() {
        Check.sentence("NONE if there are not so many names, or place is negative.");
        for (int layer = 0; layer < 4; layer++) {
            SettingsDrawer x = fullLayers();
            int names = 40 * (layer + 1);
            Check.due("name(" + layer + ", 0, 1)", x.name(layer, 0, 1), 1);
            Check.due("the lowest name", x.characterAt(1, 0), 120 - 40 * layer);
            Check.due("name(" + layer + ", last, 1)", x.name(layer, names - 1, 1), 1);
            Check.due("the highest name", x.characterAt(1, 0), 159);
            Check.due("name(" + layer + ", " + names + ", 1)", x.name(layer, names, 1), NONE);
            Check.due("name(" + layer + ", -1, 1)", x.name(layer, -1, 1), NONE);
            for (int place : BOTH_ENDS) {
                Check.due("name(" + layer + ", " + place + ", 1)", x.name(layer, place, 1), NONE);
            }
            Check.due("the slot stays", x.characterAt(1, 0), 159);
        }
        SettingsDrawer y = new SettingsDrawer();
        Check.due("name(3, 0, 1) of no names", y.name(3, 0, 1), NONE);
        Check.entry(y, 0, "", "v");
        Check.due("name(3, 0, 1) of the empty key", y.name(3, 0, 1), 0);
        Check.sentence("BAD if layer or into is out of range;");
        Check.due("name(3, -1, 6)", y.name(3, -1, 6), SettingsDrawer.BAD);
        Check.due("name(4, -1, 1)", y.name(4, -1, 1), SettingsDrawer.BAD);
        Check.due("name(-1, 7, 1)", y.name(-1, 7, 1), SettingsDrawer.BAD);
    }

    private static void keyFrom() {
        Check.sentence("Puts the lowest key of a layer itself that is not lower than a text into a slot.");
        SettingsDrawer x = Check.loaded("b=\nbb=\nd=");
        Check.entry(x, 1, "c", "");
        String[][] found = {{"", "b"}, {"a\u00ff", "b"}, {"b", "b"}, {"b\u0000", "bb"}, {"bb", "bb"}, {"bb\u0000", "d"},
            {"c", "d"}, {"d", "d"}};
        for (String[] pair : found) {
            Check.put(x, 0, pair[0]);
            Check.due("keyFrom(0, " + pair[0] + ")", x.keyFrom(0, 0, 1), pair[1].length());
            Check.dueText("keyFrom(0, " + pair[0] + ")", Check.read(x, 1), pair[1]);
        }
        Check.sentence("Returns the length of the key; BAD; NOTHING if text holds nothing; NONE if there is no such key.");
        Check.put(x, 0, "d\u0000");
        Check.due("keyFrom of a text behind all keys", x.keyFrom(0, 0, 1), NONE);
        Check.dueText("the slot stays", Check.read(x, 1), "d");
        Check.due("keyFrom of nothing", x.keyFrom(0, 5, 1), NOTHING);
        Check.due("refusals(0)", x.refusals(0), 0);
        x.erase(0);
        Check.due("keyFrom in a layer without entries", x.keyFrom(2, 0, 1), NONE);
        Check.entry(x, 2, "", "");
        Check.due("keyFrom of the empty text to the empty key", x.keyFrom(2, 0, 1), 0);
        Check.dueText("the empty key", Check.read(x, 1), "");
        Check.put(x, 0, "\u0000");
        Check.due("keyFrom behind the empty key", x.keyFrom(2, 0, 1), NONE);
        SettingsDrawer y = new SettingsDrawer();
        Check.fortyEntries(y, 0);
        Check.put(y, 0, Check.many('a', 40));
        Check.due("keyFrom to the fortieth key", y.keyFrom(0, 0, 1), 40);
        y.append(0, 'a');
        Check.due("keyFrom behind the fortieth key", y.keyFrom(0, 0, 1), NONE);
    }

    private static void alike() {
        Check.sentence("Returns 1 if they have the same entries, otherwise 0; BAD.");
        SettingsDrawer x = new SettingsDrawer();
        Check.due("alike of no entries", x.alike(0, 3), 1);
        Check.due("alike of a layer and itself", x.alike(3, 3), 1);
        Check.entry(x, 0, "", "");
        Check.due("alike of an empty entry and none", x.alike(0, 3), 0);
        Check.due("alike of none and an empty entry", x.alike(3, 0), 0);
        Check.entry(x, 3, "", "");
        Check.due("alike of empty entries", x.alike(0, 3), 1);
        Check.fortyEntries(x, 1);
        Check.fortyEntries(x, 2);
        Check.due("alike of forty entries", x.alike(1, 2), 1);
        Check.entry(x, 2, Check.many('a', 40), "other");
        Check.due("alike of another last value", x.alike(1, 2), 0);
        Check.put(x, 0, Check.many('a', 40));
        x.drop(2, 0, 1);
        Check.due("alike of forty and thirty-nine", x.alike(1, 2), 0);
        Check.due("alike of thirty-nine and forty", x.alike(2, 1), 0);
        Check.entry(x, 2, "b", Check.many('a', 40));
        Check.due("alike of another last key", x.alike(1, 2), 0);
    }

    private static void digest() {
        Check.sentence("It is 7 at first; for each entry, in ascending order of the keys, for each character of its key, then for 256, "
            + "then for each character of its value, then for 257, it becomes 31 times itself plus this number (int arithmetic "
            + "with overflow).");
        SettingsDrawer x = new SettingsDrawer();
        Check.due("digest(0) of no entries", x.digest(0), 7);
        Check.entry(x, 0, "", "");
        Check.due("digest(0) of an empty entry", x.digest(0), (7 * 31 + 256) * 31 + 257);
        Check.entry(x, 1, "\u0000", "\u00ff");
        Check.due("digest(1)", x.digest(1), (((7 * 31 + 0) * 31 + 256) * 31 + 255) * 31 + 257);
        Check.entry(x, 2, "b", "c");
        Check.entry(x, 2, "a", "d");
        int digest = (((7 * 31 + 'a') * 31 + 256) * 31 + 'd') * 31 + 257;
        digest = (((digest * 31 + 'b') * 31 + 256) * 31 + 'c') * 31 + 257;
        Check.due("digest(2), with overflow", x.digest(2), digest);
        Check.due("digest(3): the layer itself", x.digest(3), 7);
        Check.sentence("Returns the digest; 0 if layer is out of range.");
        for (int layer : new int[] {-1, 4, Integer.MIN_VALUE, Integer.MAX_VALUE}) {
            Check.due("digest(" + layer + ")", x.digest(layer), 0);
        }
    }

    private static void lastCall() {
        Check.sentence("An object is used for at most 512 calls after it has been made;");
        SettingsDrawer x = new SettingsDrawer();
        for (int calls = 1; calls <= 300; calls++) {
            x.type(calls == 2 ? '=' : 'k');
        }
        for (int calls = 301; calls <= 511; calls++) {
            Check.due("call " + calls, x.load(calls % 4), 1);
        }
        Check.due("call 512", x.names(3), 1);
    }
}
