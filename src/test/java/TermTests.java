/** The section "Terms", sentence by sentence: what always holds, texts, tape, layers, tokenizers, joiners and images. */
public final class TermTests {
    public static void main(String[] args) {
        writtenIsReadAgain();
        lastValueStands();
        highestLayerDownwards();
        returnedTokensAreTheText();
        keptTokensAndCount();
        joinedIsCutAgain();
        textsAndSlots();
        sameSlotForBoth();
        errorsAndConstants();
        tape();
        writing();
        layers();
        keyOrder();
        namesOnce();
        tokenizers();
        tokenizerDelimiters();
        noNextToken();
        moreAndCountStay();
        droppedTokenizer();
        joiners();
        joinerResults();
        images();
        Check.finish("TermTests");
    }

    // ---- what always holds

    private static void isReadAgain(SettingsDrawer x, int layer, int empty) {
        int entries = x.size(layer);
        Check.due("write(" + layer + ") fits", x.write(layer) >= 0 ? 1 : 0, 1);
        Check.due("load(" + empty + ")", x.load(empty), entries);
        Check.due("alike(" + layer + ", " + empty + ")", x.alike(layer, empty), 1);
        Check.due("the digests", x.digest(empty), x.digest(layer));
    }

    private static void writtenIsReadAgain() {
        Check.sentence("Reading into an empty layer what write() wrote of a layer gives a layer with the same entries.");
        SettingsDrawer none = new SettingsDrawer();
        Check.type(none, "a=1");
        isReadAgain(none, 2, 1);
        Check.due("size(1) of no entries", none.size(1), 0);
        String[][] entries = {
            {"", ""}, {"", "v"}, {"k", ""}, {" ", " "}, {"#", "#"}, {"!", "!"}, {"=", "="}, {":", ":"}, {"\\", "\\"},
            {"\n", "\n"}, {"\r", "\r"}, {"\t", "\t"}, {"\f", "\f"}, {"k\\", "v\\"}, {"\\u0041", "\\u00g"}, {"  k", "  v  "},
            {"t", "\\t"}, {"\u0000", "\u00ff"}, {"k=", "=v"}, {"# k", "! v"}, {"\r\n", "\r\n"}};
        for (String[] entry : entries) {
            SettingsDrawer x = new SettingsDrawer();
            Check.entry(x, 3, entry[0], entry[1]);
            isReadAgain(x, 3, 0);
            Check.dueText("the value", Check.value(x, 0, entry[0]), entry[1]);
        }
        SettingsDrawer longest = new SettingsDrawer();
        Check.put(longest, 0, "k");
        Check.putMany(longest, 1, 'v', 297);
        longest.set(0, 0, 1, 2);
        isReadAgain(longest, 0, 1);
        Check.due("tapeLength() of the longest that can be written", longest.tapeLength(), 300);
        SettingsDrawer forty = new SettingsDrawer();
        forty.erase(1);
        for (int i = 0; i < 40; i++) {
            forty.erase(0);
            forty.append(0, 'A' + i);
            forty.set(1, 0, 1, 2);
        }
        isReadAgain(forty, 1, 2);
        Check.due("size(2) of forty entries", forty.size(2), 40);
    }

    private static void lastValueStands() {
        Check.sentence("Of a key that is told several times the last value stands.");
        String[][] tapes = {
            {"a=1\na=2\na=3", "3"}, {"a=1\na", ""}, {"a=1\na=1", "1"}, {"a=1\n\\u0061=2", "2"}, {"a=1\n\\a:2\n#a=3", "2"},
            {"a=3\nb=2\na 1", "1"}};
        for (String[] tape : tapes) {
            Check.dueText("a of <" + tape[0] + ">", Check.value(Check.loaded(tape[0]), 0, "a"), tape[1]);
        }
        SettingsDrawer x = Check.loaded("a=1");
        x.wipe();
        Check.type(x, "a=2");
        x.load(0);
        Check.dueText("a of two tapes", Check.value(x, 0, "a"), "2");
        Check.due("size(0)", x.size(0), 1);
    }

    private static void highestLayerDownwards() {
        Check.sentence("Looking up a key finds the entry of the highest layer, from the given one downwards, that has it.");
        SettingsDrawer x = new SettingsDrawer();
        Check.entry(x, 1, "k", "one,1");
        Check.entry(x, 3, "k", "");
        Check.put(x, 0, "k");
        Check.put(x, 1, "other text");
        Check.put(x, 2, ",");
        int[] lengths = {SettingsDrawer.NONE, 5, 5, 0};
        int[] lengthsOr = {10, 5, 5, 0};
        int[] layersOf = {SettingsDrawer.NONE, 1, 1, 3};
        int[] tokens = {SettingsDrawer.NONE, 2, 2, 0};
        for (int layer = 0; layer < 4; layer++) {
            Check.due("get(" + layer + ", 0, 3)", x.get(layer, 0, 3), lengths[layer]);
            Check.due("getOr(" + layer + ", 0, 1, 3)", x.getOr(layer, 0, 1, 3), lengthsOr[layer]);
            Check.due("layerOf(" + layer + ", 0)", x.layerOf(layer, 0), layersOf[layer]);
            Check.due("tokenizeValue(0, " + layer + ", 0, 2)", x.tokenizeValue(0, layer, 0, 2), tokens[layer]);
        }
    }

    private static final String[] CUT_TEXTS = {"", ",", ",,", "a", "a,b", ",a,,b;c,", "ab;cd", "a b", "\u0000,\u00ff", ";;;"};
    private static final String[] DELIMITERS = {"", ",", ",;", ",,", "a", "\u0000", "\u00ff", "ab,;"};

    private static void returnedTokensAreTheText() {
        Check.sentence("The tokens of a tokenizer that returns delimiters, put together in order, are the text that it cuts;");
        for (String text : CUT_TEXTS) {
            for (String delimiters : DELIMITERS) {
                SettingsDrawer x = new SettingsDrawer();
                Check.put(x, 0, text);
                Check.put(x, 1, delimiters);
                int tokens = x.tokenizeAll(1, 0, 1);
                StringBuilder all = new StringBuilder();
                for (int left = tokens; left > 0; left--) {
                    Check.due("more(1)", x.more(1), 1);
                    Check.due("count(1)", x.count(1), left);
                    x.next(1, 2);
                    all.append(Check.read(x, 2));
                }
                Check.dueText("<" + text + "> by <" + delimiters + ">", all.toString(), text);
                Check.due("more(1) behind the last token", x.more(1), 0);
            }
        }
    }

    private static void keptTokensAndCount() {
        Check.sentence("the tokens of one that does not return them hold no delimiter and are not empty, and count() is the "
            + "number of calls of next() that still succeed.");
        for (String text : CUT_TEXTS) {
            for (String delimiters : DELIMITERS) {
                SettingsDrawer x = new SettingsDrawer();
                Check.put(x, 0, text);
                Check.put(x, 1, delimiters);
                String call = "<" + text + "> by <" + delimiters + ">";
                int succeeded = 0;
                int counted = x.tokenizeBy(0, 0, 1);
                while (x.next(0, 2) > 0) {
                    succeeded++;
                    Check.due("count(0) of " + call, x.count(0), counted - succeeded);
                    for (char c : Check.read(x, 2).toCharArray()) {
                        Check.due("a delimiter in a token of " + call, delimiters.indexOf(c) >= 0 ? 1 : 0, 0);
                    }
                }
                Check.due("calls of next() of " + call, succeeded, counted);
                Check.due("refusals(1) of " + call, x.refusals(1), 1);
            }
        }
    }

    private static void joinedIsCutAgain() {
        Check.sentence("a tokenizer with this delimiter gives the parts again, in order.");
        String[][] all = {{"a"}, {"a", "b"}, {"b", "a", "b"}, {" ", ";;", "\u0000"}, {}, {"null", "x"}};
        for (String[] parts : all) {
            SettingsDrawer x = new SettingsDrawer();
            Check.put(x, 0, ",");
            x.join(2, 0);
            for (String part : parts) {
                Check.put(x, 1, part);
                x.add(2, 1);
            }
            x.joined(2, 1);
            Check.due("the parts", x.tokenizeBy(1, 1, 0), parts.length);
            String told = parts.length == 0 ? "" : String.join("|", parts) + "|";
            Check.dueText("the parts", Check.tokens(x, 1), told);
        }
    }

    // ---- texts and slots, errors, tape

    private static void textsAndSlots() {
        Check.sentence("There are six slots, numbered from 0 to 5; a slot holds a text of at most 300 characters, or nothing");
        SettingsDrawer x = new SettingsDrawer();
        for (int slot = 0; slot < 6; slot++) {
            Check.due("length(" + slot + ") at first", x.length(slot), SettingsDrawer.NOTHING);
            x.erase(slot);
            Check.due("append(" + slot + ", " + (250 + slot) + ")", x.append(slot, 250 + slot), 1);
        }
        for (int slot = 0; slot < 6; slot++) {
            Check.due("characterAt(" + slot + ", 0)", x.characterAt(slot, 0), 250 + slot);
        }
        Check.due("append(6, 97)", x.append(6, 97), SettingsDrawer.BAD);
        Check.putMany(x, 3, 'a', 299);
        Check.due("the 300th character", x.append(3, 'b'), 300);
        Check.due("the 301st character", x.append(3, 'c'), SettingsDrawer.FULL);
        Check.due("the last character stays", x.characterAt(3, 299), 'b');
        Check.sentence("All texts consist of characters from 0 to 255.");
        int[] answers = {SettingsDrawer.BAD, 1, 2, 3, 4, SettingsDrawer.BAD, SettingsDrawer.BAD, SettingsDrawer.BAD};
        int[] characters = {-1, 0, 127, 128, 255, 256, 65536 + 97, -65439};
        x.erase(0);
        for (int i = 0; i < characters.length; i++) {
            Check.due("append(0, " + characters[i] + ")", x.append(0, characters[i]), answers[i]);
        }
    }

    private static void sameSlotForBoth() {
        Check.sentence("A method that takes texts from slots and puts one into a slot takes all of them first, so the same "
            + "slot may be used for both.");
        SettingsDrawer x = Check.loaded("k=key\nkey=k");
        Check.put(x, 0, "k");
        Check.due("get(0, 0, 0)", x.get(0, 0, 0), 3);
        Check.due("get(0, 0, 0), back", x.get(0, 0, 0), 1);
        Check.dueText("slot 0", Check.read(x, 0), "k");
        Check.due("getOr(0, 0, 0, 0)", x.getOr(0, 0, 0, 0), 3);
        Check.put(x, 1, "absent");
        Check.due("getOr(0, 1, 0, 1)", x.getOr(0, 1, 0, 1), 3);
        Check.dueText("slot 1", Check.read(x, 1), "key");
        Check.put(x, 2, "new value");
        Check.due("set(0, 1, 2, 2)", x.set(0, 1, 2, 2), 2);
        Check.dueText("slot 2", Check.read(x, 2), "k");
        Check.due("set(0, 1, 2, 1)", x.set(0, 1, 2, 1), 2);
        Check.dueText("slot 1", Check.read(x, 1), "new value");
        Check.due("set(0, 1, 1, 1)", x.set(0, 1, 1, 1), 3);
        Check.due("length(1)", x.length(1), SettingsDrawer.NOTHING);
        Check.dueText("the entry", Check.value(x, 0, "new value"), "new value");
        Check.due("keyFrom(0, 2, 2)", x.keyFrom(0, 2, 2), 1);
        x.append(2, 'e');
        Check.due("keyFrom(0, 2, 2) of ke", x.keyFrom(0, 2, 2), 3);
        Check.dueText("slot 2", Check.read(x, 2), "key");
        Check.due("drop(0, 2, 2)", x.drop(0, 2, 2), 2);
        Check.dueText("slot 2", Check.read(x, 2), "k");
        Check.put(x, 0, "a;b,c");
        Check.put(x, 1, ",");
        x.tokenizeBy(0, 0, 1);
        Check.put(x, 1, ";");
        Check.due("nextBy(0, 1, 1)", x.nextBy(0, 1, 1), 1);
        Check.dueText("slot 1", Check.read(x, 1), "a");
        Check.due("copy(1, 1)", x.copy(1, 1), 1);
        Check.due("same(1, 1)", x.same(1, 1), 1);
        Check.put(x, 1, "-");
        Check.due("joinWithin(0, 1, 1, 1)", x.joinWithin(0, 1, 1, 1), 2);
        Check.due("joined(0, 1)", x.joined(0, 1), 2);
        Check.due("add(0, 1)", x.add(0, 1), 4);
    }

    private static void errorsAndConstants() {
        Check.sentence("`BAD = -1, NOTHING = -2, FULL = -3, NOT_MADE = -4, NONE = -5, BROKEN = -6`");
        int[] constants = {
            SettingsDrawer.BAD, SettingsDrawer.NOTHING, SettingsDrawer.FULL, SettingsDrawer.NOT_MADE, SettingsDrawer.NONE,
            SettingsDrawer.BROKEN, SettingsDrawer.NULL_POINTER, SettingsDrawer.NO_SUCH_ELEMENT};
        for (int i = 0; i < constants.length; i++) {
            Check.due("constant " + i, constants[i], -1 - i);
        }
        Check.sentence("NULL_POINTER: the library has thrown a NullPointerException, or a joiner, but by add(), is told a slot "
            + "that holds nothing.");
        SettingsDrawer x = new SettingsDrawer();
        Check.put(x, 0, "a");
        x.join(0, 0);
        Check.due("add(0, nothing)", x.add(0, 5), 4);
        Check.due("ifEmpty(0, nothing)", x.ifEmpty(0, 5), SettingsDrawer.NULL_POINTER);
        Check.due("join(0, nothing)", x.join(0, 5), SettingsDrawer.NULL_POINTER);
        Check.due("joinWithin(0, nothing, 0, 0)", x.joinWithin(0, 5, 0, 0), SettingsDrawer.NULL_POINTER);
        Check.due("has(0, nothing) of an empty layer", x.has(0, 5), SettingsDrawer.NULL_POINTER);
        Check.due("drop(0, nothing, 1) of an empty layer", x.drop(0, 5, 1), SettingsDrawer.NULL_POINTER);
        Check.due("refusals(0)", x.refusals(0), 5);
    }

    private static void tape() {
        Check.sentence("Characters that may be typed are tab (9), line feed (10), carriage return (13), and 32 to 126.");
        for (int character : new int[] {9, 10, 13, 32, 33, 125, 126}) {
            Check.due("type(" + character + ")", new SettingsDrawer().type(character), 1);
        }
        for (int character : new int[] {8, 11, 12, 14, 31, 127, 128, 0, -1, 255, 256, 65536 + 32, Integer.MIN_VALUE}) {
            SettingsDrawer x = new SettingsDrawer();
            Check.due("type(" + character + ")", x.type(character), SettingsDrawer.BAD);
            Check.due("tapeLength() after type(" + character + ")", x.tapeLength(), 0);
        }
        Check.sentence("The tape is a text of at most 300 characters.");
        SettingsDrawer x = new SettingsDrawer();
        Check.type(x, Check.many('a', 299));
        Check.due("the 300th character", x.type('b'), 300);
        Check.due("the 301st character", x.type('c'), SettingsDrawer.FULL);
        Check.due("a carriage return as the 301st", x.type(13), SettingsDrawer.FULL);
        Check.due("the last character", x.tapeAt(299), 'b');
        Check.due("tapeLength()", x.tapeLength(), 300);
        Check.due("wipe()", x.wipe(), 300);
        Check.due("type('c') then", x.type('c'), 1);
        Check.sentence("At first the tape is empty.");
        Check.due("tapeLength()", new SettingsDrawer().tapeLength(), 0);
        Check.due("tapeAt(0)", new SettingsDrawer().tapeAt(0), SettingsDrawer.NONE);
    }

    private static String written(int character) {
        String letters = "\t\n\r\\=:#! ";
        int letter = letters.indexOf(character);
        if (letter >= 0) {
            return "\\" + "tnr\\=:#! ".charAt(letter);
        }
        return character < 32 || character > 126 ? String.format("\\u%04x", character) : String.valueOf((char) character);
    }

    private static void writing() {
        Check.sentence("An entry is written as its key, the character =, its value, and a line feed.");
        for (int character = 0; character < 256; character++) {
            SettingsDrawer x = new SettingsDrawer();
            String text = String.valueOf((char) character);
            Check.entry(x, 0, text, "a" + text);
            String want = written(character) + "=a" + written(character) + "\n";
            Check.due("write(0) of character " + character, x.write(0), want.length());
            Check.dueText("the tape of character " + character, Check.tape(x), want);
        }
        SettingsDrawer x = new SettingsDrawer();
        Check.entry(x, 0, "", "");
        Check.due("write(0) of two empty texts", x.write(0), 2);
        Check.dueText("the tape", Check.tape(x), "=\n");
    }

    // ---- layers

    private static void layers() {
        Check.sentence("There are four layers, numbered from 0 to 3, empty at first.");
        SettingsDrawer x = new SettingsDrawer();
        for (int layer = 0; layer < 4; layer++) {
            Check.due("size(" + layer + ")", x.size(layer), 0);
            Check.due("size after set of layer " + layer, Check.entry(x, layer, "k", "" + layer), 1);
        }
        for (int layer = 0; layer < 4; layer++) {
            Check.dueText("k of layer " + layer, Check.value(x, layer, "k"), "" + layer);
        }
        Check.sentence("A layer holds at most 40 entries, each with its own key.");
        SettingsDrawer y = new SettingsDrawer();
        Check.fortyEntries(y, 3);
        Check.due("size(3)", y.size(3), 40);
        Check.due("the forty-first", Check.entry(y, 3, "b", ""), SettingsDrawer.FULL);
        Check.due("a key that it has", Check.entry(y, 3, "a", "1"), 40);
        Check.due("another layer", Check.entry(y, 2, "b", ""), 1);
    }

    private static void keyOrder() {
        Check.sentence("keys are ordered as String.compareTo() orders them.");
        String[] sorted = {"", "\u0000", "\u0000\u0000", "\u0001", " ", "0", "10", "9", "A", "Z", "a", "a ", "aa", "ab", "b",
            "\u007f", "\u0080", "\u00e9", "\u00ff", "\u00ffa"};
        SettingsDrawer x = new SettingsDrawer();
        for (int i = 0; i < sorted.length; i++) {
            Check.entry(x, 0, sorted[(i * 7) % sorted.length], "");
        }
        Check.due("size(0)", x.size(0), sorted.length);
        for (int i = 0; i < sorted.length; i++) {
            x.name(0, i, 0);
            Check.dueText("name " + i, Check.read(x, 0), sorted[i]);
            if (i > 0) {
                Check.due("name " + i + " is higher", sorted[i].compareTo(sorted[i - 1]) > 0 ? 1 : 0, 1);
            }
        }
    }

    private static void namesOnce() {
        Check.sentence("The names that are seen from a layer are the keys of this layer and of all lower ones, each once.");
        SettingsDrawer x = new SettingsDrawer();
        for (int layer = 0; layer < 4; layer++) {
            Check.entry(x, layer, "same", "");
        }
        Check.entry(x, 3, "top", "");
        Check.entry(x, 0, "low", "");
        int[] want = {2, 2, 2, 3};
        for (int layer = 0; layer < 4; layer++) {
            Check.due("names(" + layer + ")", x.names(layer), want[layer]);
            Check.due("name(" + layer + ", " + want[layer] + ", 0)", x.name(layer, want[layer], 0), SettingsDrawer.NONE);
        }
        x.name(3, 2, 0);
        Check.dueText("the last name", Check.read(x, 0), "top");
    }

    // ---- tokenizers

    private static void tokenizers() {
        Check.sentence("There are two tokenizers, numbered 0 and 1, none made at first.");
        SettingsDrawer x = new SettingsDrawer();
        Check.put(x, 0, "a b");
        Check.put(x, 1, "c");
        for (int tokenizer = 0; tokenizer < 2; tokenizer++) {
            Check.due("more(" + tokenizer + ")", x.more(tokenizer), SettingsDrawer.NOT_MADE);
            Check.due("count(" + tokenizer + ")", x.count(tokenizer), SettingsDrawer.NOT_MADE);
            Check.due("next(" + tokenizer + ", 2)", x.next(tokenizer, 2), SettingsDrawer.NOT_MADE);
            Check.due("nextBy(" + tokenizer + ", 0, 2)", x.nextBy(tokenizer, 0, 2), SettingsDrawer.NOT_MADE);
        }
        Check.due("tokenize(0, 0)", x.tokenize(0, 0), 2);
        Check.due("count(1) still", x.count(1), SettingsDrawer.NOT_MADE);
        Check.due("tokenize(1, 1)", x.tokenize(1, 1), 1);
        Check.due("count(0) still", x.count(0), 2);
        Check.due("tokenize(2, 0)", x.tokenize(2, 0), SettingsDrawer.BAD);
    }

    private static void tokenizerDelimiters() {
        Check.sentence("a set of delimiters (the characters of a text, which may be empty)");
        String[][] cuts = {
            {"a,b", "", "a,b|"}, {"a,b", ",,,", "a|b|"}, {"a,b;c", ";,", "a|b|c|"}, {"ab", "b", "a|"}, {"ab", "a", "b|"},
            {"ab", "ab", ""}, {"", "a", ""}, {"", "", ""}, {"\u0000a\u00ff", "\u0000", "a\u00ff|"},
            {"\u0000a\u00ff", "\u00ff", "\u0000a|"}, {"\u0000", "", "\u0000|"}, {"a\u007fb", "\u00ff", "a\u007fb|"}};
        for (String[] cut : cuts) {
            SettingsDrawer x = new SettingsDrawer();
            Check.put(x, 0, cut[0]);
            Check.put(x, 1, cut[1]);
            x.tokenizeBy(0, 0, 1);
            Check.dueText("<" + cut[0] + "> by <" + cut[1] + ">", Check.tokens(x, 0), cut[2]);
        }
        Check.sentence("if it does, and a delimiter stands at the position, this one character is the token;");
        SettingsDrawer x = new SettingsDrawer();
        Check.put(x, 0, ",,ab;,c;");
        Check.put(x, 1, ";,");
        x.tokenizeAll(0, 0, 1);
        Check.dueText("tokens", Check.tokens(x, 0), ",|,|ab|;|,|c|;|");
        Check.sentence("The position is directly behind the token then.");
        Check.put(x, 0, "a,,b");
        Check.put(x, 1, ",");
        x.tokenizeBy(0, 0, 1);
        x.next(0, 2);
        x.erase(1);
        Check.due("nextBy(0, 1, 2) from behind the token", x.nextBy(0, 1, 2), 3);
        Check.dueText("what stands behind the token", Check.read(x, 2), ",,b");
    }

    private static void noNextToken() {
        Check.sentence("There is no next token if only delimiters are left that are skipped, or nothing.");
        String[] texts = {"", ",", ",,,"};
        for (String text : texts) {
            SettingsDrawer x = new SettingsDrawer();
            Check.put(x, 0, text);
            Check.put(x, 1, ",");
            Check.due("tokenizeBy of <" + text + ">", x.tokenizeBy(0, 0, 1), 0);
            Check.due("more(0) of <" + text + ">", x.more(0), 0);
            Check.due("next(0, 2) of <" + text + ">", x.next(0, 2), SettingsDrawer.NO_SUCH_ELEMENT);
            Check.due("tokenizeAll of <" + text + ">", x.tokenizeAll(0, 0, 1), text.length());
            Check.due("more(0) of <" + text + ">, returned", x.more(0), text.isEmpty() ? 0 : 1);
        }
        SettingsDrawer x = new SettingsDrawer();
        Check.put(x, 0, "a,,");
        Check.put(x, 1, ",");
        x.tokenizeBy(0, 0, 1);
        x.next(0, 2);
        Check.due("more(0) with two delimiters left", x.more(0), 0);
        Check.due("count(0) with two delimiters left", x.count(0), 0);
        Check.due("next(0, 2) with two delimiters left", x.next(0, 2), SettingsDrawer.NO_SUCH_ELEMENT);
    }

    private static void moreAndCountStay() {
        Check.sentence("more() and count() do not change the position.");
        SettingsDrawer x = new SettingsDrawer();
        Check.put(x, 0, ",,a,b");
        Check.put(x, 1, ",");
        Check.put(x, 2, ";");
        x.tokenizeBy(0, 0, 1);
        for (int times = 0; times < 3; times++) {
            Check.due("more(0)", x.more(0), 1);
            Check.due("count(0)", x.count(0), 2);
        }
        Check.due("nextBy(0, 2, 3) from the first position", x.nextBy(0, 2, 3), 5);
    }

    private static void droppedTokenizer() {
        Check.sentence("A tokenizer for which the library has thrown a NoSuchElementException is dropped");
        SettingsDrawer x = new SettingsDrawer();
        x.erase(0);
        Check.put(x, 1, "a");
        x.tokenize(1, 0);
        Check.due("next(1, 2)", x.next(1, 2), SettingsDrawer.NO_SUCH_ELEMENT);
        Check.due("next(1, 2) again", x.next(1, 2), SettingsDrawer.NOT_MADE);
        Check.due("nextBy(1, 1, 2)", x.nextBy(1, 1, 2), SettingsDrawer.NOT_MADE);
        Check.due("more(1)", x.more(1), SettingsDrawer.NOT_MADE);
        Check.due("count(1)", x.count(1), SettingsDrawer.NOT_MADE);
        Check.due("refusals(1)", x.refusals(1), 1);
        Check.due("length(2)", x.length(2), SettingsDrawer.NOTHING);
        Check.due("tokenize(1, 1) makes a new one", x.tokenize(1, 1), 1);
        Check.due("next(1, 2)", x.next(1, 2), 1);
    }

    // ---- joiners and images

    private static void joiners() {
        Check.sentence("There are three joiners, numbered from 0 to 2, none made at first.");
        SettingsDrawer x = new SettingsDrawer();
        Check.put(x, 0, "a");
        for (int joiner = 0; joiner < 3; joiner++) {
            Check.due("joinedLength(" + joiner + ")", x.joinedLength(joiner), SettingsDrawer.NOT_MADE);
            Check.due("joined(" + joiner + ", 1)", x.joined(joiner, 1), SettingsDrawer.NOT_MADE);
            Check.due("add(" + joiner + ", 0)", x.add(joiner, 0), SettingsDrawer.NOT_MADE);
            Check.due("ifEmpty(" + joiner + ", 0)", x.ifEmpty(joiner, 0), SettingsDrawer.NOT_MADE);
            Check.due("setJoined(0, 0, " + joiner + ")", x.setJoined(0, 0, joiner), SettingsDrawer.NOT_MADE);
        }
        for (int joiner = 0; joiner < 3; joiner++) {
            Check.due("join(" + joiner + ", 0)", x.join(joiner, 0), 0);
            for (int times = 0; times <= joiner; times++) {
                x.add(joiner, 0);
            }
        }
        for (int joiner = 0; joiner < 3; joiner++) {
            Check.due("joinedLength(" + joiner + ")", x.joinedLength(joiner), 2 * joiner + 1);
        }
    }

    private static void joinerResults() {
        Check.sentence("if it has no elements, and has a text for this case, its result is this text alone.");
        SettingsDrawer x = new SettingsDrawer();
        Check.put(x, 0, "-");
        Check.put(x, 1, "<<");
        Check.put(x, 2, ">");
        Check.put(x, 3, "none");
        Check.due("joinWithin(0, 0, 1, 2)", x.joinWithin(0, 0, 1, 2), 3);
        Check.due("ifEmpty(0, 3)", x.ifEmpty(0, 3), 4);
        Check.due("joined(0, 5)", x.joined(0, 5), 4);
        Check.dueText("the text alone", Check.read(x, 5), "none");
        Check.sentence("An element may be empty.");
        x.erase(4);
        Check.due("add of an empty element", x.add(0, 4), 3);
        Check.due("add of an empty element again", x.add(0, 4), 4);
        x.joined(0, 5);
        Check.dueText("two empty elements", Check.read(x, 5), "<<->");
        Check.sentence("The result has at most 300 characters.");
        Check.putMany(x, 4, 'x', 295);
        x.joinWithin(0, 0, 1, 2);
        Check.due("add of 295", x.add(0, 4), 298);
        Check.due("add of 1, with the delimiter", x.add(0, 2), 300);
        x.erase(4);
        Check.due("add of an empty element", x.add(0, 4), SettingsDrawer.FULL);
        Check.due("joined(0, 5)", x.joined(0, 5), 300);
        Check.due("the first character", x.characterAt(5, 0), '<');
        Check.due("the last character", x.characterAt(5, 299), '>');
    }

    private static void images() {
        Check.sentence("There are two images, numbered 0 and 1, none made at first.");
        SettingsDrawer x = new SettingsDrawer();
        Check.due("restore(0)", x.restore(0), SettingsDrawer.NOT_MADE);
        Check.due("restore(1)", x.restore(1), SettingsDrawer.NOT_MADE);
        Check.due("keep(0) of empty layers", x.keep(0), 0);
        Check.due("restore(1) still", x.restore(1), SettingsDrawer.NOT_MADE);
        Check.sentence("An image holds the entries of all four layers.");
        for (int layer = 0; layer < 4; layer++) {
            Check.entry(x, layer, "k", "" + layer);
        }
        Check.due("keep(1)", x.keep(1), 4);
        Check.due("restore(0)", x.restore(0), 0);
        Check.due("names(3)", x.names(3), 0);
        Check.due("restore(1)", x.restore(1), 4);
        for (int layer = 0; layer < 4; layer++) {
            Check.dueText("k of layer " + layer, Check.value(x, layer, "k"), "" + layer);
        }
    }
}
