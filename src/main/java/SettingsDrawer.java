/**
 * A settings drawer: texts of keys and values in the style of a .properties file, read into four
 * layers of which the upper ones fall back on the lower ones, written back with escapes, and lists
 * within values that are cut by tokenizers and put together by joiners.
 */
public final class SettingsDrawer {
    public static final int BAD = -1, NOTHING = -2, FULL = -3, NOT_MADE = -4, NONE = -5, BROKEN = -6;
    public static final int NULL_POINTER = -7, NO_SUCH_ELEMENT = -8;

    private static final int SLOTS = 6;
    private static final int LAYERS = 4;
    private static final int TOKENIZERS = 2;
    private static final int JOINERS = 3;
    private static final int IMAGES = 2;
    private static final int TEXT_LIMIT = 300;
    private static final int ENTRY_LIMIT = 40;
    private static final int NAME_LIMIT = LAYERS * ENTRY_LIMIT;
    private static final int HIGHEST_CHARACTER = 255;
    private static final int FIRST_PRINTED = 32;
    private static final int LAST_PRINTED = 126;
    private static final int NO_SIGN = -1;
    private static final int NO_NUMBER = -1;
    private static final int UNICODE_DIGITS = 4;
    private static final int DIGEST_START = 7;
    private static final int DIGEST_FACTOR = 31;
    private static final int DIGEST_KEY_END = 256;
    private static final int DIGEST_VALUE_END = 257;
    private static final String HEX_DIGITS = "0123456789abcdef";
    private static final String STANDARD_DELIMITERS = " \t\n\r\f";
    private static final String NULL_LETTERS = "null";

    private final Slot[] slots;
    private final Tape tape;
    private final LayerPile layers;
    // load() fills this one first, so that a load that does not fit leaves the real layer alone.
    private final Layer trial;
    private final LayerPile[] images;
    private final Tokenizer[] tokenizers;
    private final Joiner[] joiners;
    private int nullPointers;
    private int noSuchElements;

    public SettingsDrawer() {
        slots = new Slot[SLOTS];
        for (int slot = 0; slot < SLOTS; slot++) {
            slots[slot] = new Slot();
        }
        tape = new Tape();
        layers = new LayerPile();
        trial = new Layer();
        images = new LayerPile[IMAGES];
        tokenizers = new Tokenizer[TOKENIZERS];
        joiners = new Joiner[JOINERS];
        nullPointers = 0;
        noSuchElements = 0;
    }

    // ---- slots

    public int erase(int slot) {
        Slot held = slotAt(slot);
        if (held == null) {
            return BAD;
        }
        int before = lengthOrNothing(held.text);
        held.text = "";
        return before;
    }

    public int forget(int slot) {
        Slot held = slotAt(slot);
        if (held == null) {
            return BAD;
        }
        int before = lengthOrNothing(held.text);
        held.text = null;
        return before;
    }

    public int append(int slot, int character) {
        Slot held = slotAt(slot);
        if (held == null || character < 0 || character > HIGHEST_CHARACTER) {
            return BAD;
        }
        String text = held.text;
        if (text == null) {
            return NOTHING;
        }
        if (text.length() >= TEXT_LIMIT) {
            return FULL;
        }
        StringBuilder longer = new StringBuilder();
        longer.append(text);
        longer.append((char) character);
        return putInto(held, longer.toString());
    }

    public int length(int slot) {
        Slot held = slotAt(slot);
        if (held == null) {
            return BAD;
        }
        return lengthOrNothing(held.text);
    }

    public int characterAt(int slot, int place) {
        Slot held = slotAt(slot);
        if (held == null) {
            return BAD;
        }
        String text = held.text;
        if (text == null) {
            return NOTHING;
        }
        if (place < 0 || place >= text.length()) {
            return NONE;
        }
        return text.charAt(place);
    }

    public int copy(int from, int to) {
        Slot source = slotAt(from);
        Slot target = slotAt(to);
        if (source == null || target == null) {
            return BAD;
        }
        target.text = source.text;
        return lengthOrNothing(target.text);
    }

    public int same(int slot, int other) {
        Slot one = slotAt(slot);
        Slot two = slotAt(other);
        if (one == null || two == null) {
            return BAD;
        }
        if (one.text == null || two.text == null) {
            return one.text == null && two.text == null ? 1 : 0;
        }
        return one.text.equals(two.text) ? 1 : 0;
    }

    // ---- tape

    public int type(int character) {
        if (!isTyped(character)) {
            return BAD;
        }
        if (tape.signs.length() >= TEXT_LIMIT) {
            return FULL;
        }
        tape.signs.append((char) character);
        return tape.signs.length();
    }

    public int tapeLength() {
        return tape.signs.length();
    }

    public int tapeAt(int place) {
        if (place < 0 || place >= tape.signs.length()) {
            return NONE;
        }
        return tape.signs.charAt(place);
    }

    public int wipe() {
        int before = tape.signs.length();
        tape.signs.setLength(0);
        return before;
    }

    public int load(int layer) {
        Layer target = layers.layerAt(layer);
        if (target == null) {
            return BAD;
        }
        if (firstBrokenPlace() != NONE) {
            return BROKEN;
        }
        trial.takeAll(target);
        int entriesRead = 0;
        tape.rewind();
        while (entriesRead <= TEXT_LIMIT && tape.readEntry()) {
            if (!trial.put(tape.keyText(), tape.valueText())) {
                return FULL;
            }
            entriesRead++;
        }
        target.takeAll(trial);
        return entriesRead;
    }

    public int brokenAt() {
        return firstBrokenPlace();
    }

    public int write(int layer) {
        Layer source = layers.layerAt(layer);
        if (source == null) {
            return BAD;
        }
        if (source.writtenLength() > TEXT_LIMIT) {
            return FULL;
        }
        tape.signs.setLength(0);
        source.writeOnto(tape.signs);
        return tape.signs.length();
    }

    // ---- layers

    public int get(int layer, int key, int into) {
        Slot keySlot = slotAt(key);
        Slot target = slotAt(into);
        if (layers.layerAt(layer) == null || keySlot == null || target == null) {
            return BAD;
        }
        if (keySlot.text == null) {
            return refuseNull();
        }
        String value = layers.lookUp(layer, keySlot.text);
        if (value == null) {
            return NONE;
        }
        return putInto(target, value);
    }

    public int getOr(int layer, int key, int other, int into) {
        Slot keySlot = slotAt(key);
        Slot otherSlot = slotAt(other);
        Slot target = slotAt(into);
        if (layers.layerAt(layer) == null || keySlot == null || otherSlot == null || target == null) {
            return BAD;
        }
        if (keySlot.text == null) {
            return refuseNull();
        }
        String value = layers.lookUp(layer, keySlot.text);
        if (value == null) {
            value = otherSlot.text;
        }
        if (value == null) {
            return NOTHING;
        }
        return putInto(target, value);
    }

    public int has(int layer, int key) {
        Layer asked = layers.layerAt(layer);
        Slot keySlot = slotAt(key);
        if (asked == null || keySlot == null) {
            return BAD;
        }
        if (keySlot.text == null) {
            return refuseNull();
        }
        return asked.valueOf(keySlot.text) != null ? 1 : 0;
    }

    public int layerOf(int layer, int key) {
        Slot keySlot = slotAt(key);
        if (layers.layerAt(layer) == null || keySlot == null) {
            return BAD;
        }
        if (keySlot.text == null) {
            return refuseNull();
        }
        return layers.layerHaving(layer, keySlot.text);
    }

    public int set(int layer, int key, int value, int into) {
        Layer changed = layers.layerAt(layer);
        Slot keySlot = slotAt(key);
        Slot valueSlot = slotAt(value);
        Slot target = slotAt(into);
        if (changed == null || keySlot == null || valueSlot == null || target == null) {
            return BAD;
        }
        if (valueSlot.text == null) {
            return NOTHING;
        }
        if (keySlot.text == null) {
            return refuseNull();
        }
        String previous = changed.valueOf(keySlot.text);
        if (!changed.put(keySlot.text, valueSlot.text)) {
            return FULL;
        }
        target.text = previous;
        return changed.entryCount();
    }

    public int drop(int layer, int key, int into) {
        Layer changed = layers.layerAt(layer);
        Slot keySlot = slotAt(key);
        Slot target = slotAt(into);
        if (changed == null || keySlot == null || target == null) {
            return BAD;
        }
        if (keySlot.text == null) {
            return refuseNull();
        }
        String value = changed.valueOf(keySlot.text);
        if (value == null) {
            return NONE;
        }
        changed.remove(keySlot.text);
        target.text = value;
        return changed.entryCount();
    }

    public int empty(int layer) {
        Layer changed = layers.layerAt(layer);
        if (changed == null) {
            return BAD;
        }
        int before = changed.entryCount();
        changed.removeAll();
        return before;
    }

    public int size(int layer) {
        Layer asked = layers.layerAt(layer);
        if (asked == null) {
            return BAD;
        }
        return asked.entryCount();
    }

    public int names(int layer) {
        if (layers.layerAt(layer) == null) {
            return BAD;
        }
        NameWalk walk = new NameWalk(layers, layer);
        int seen = 0;
        while (seen < NAME_LIMIT && walk.nextName() != null) {
            seen++;
        }
        return seen;
    }

    public int name(int layer, int place, int into) {
        Slot target = slotAt(into);
        if (layers.layerAt(layer) == null || target == null) {
            return BAD;
        }
        if (place < 0 || place >= NAME_LIMIT) {
            return NONE;
        }
        NameWalk walk = new NameWalk(layers, layer);
        String found = walk.nextName();
        for (int passed = 0; passed < place && found != null; passed++) {
            found = walk.nextName();
        }
        if (found == null) {
            return NONE;
        }
        return putInto(target, found);
    }

    public int keyFrom(int layer, int text, int into) {
        Layer asked = layers.layerAt(layer);
        Slot textSlot = slotAt(text);
        Slot target = slotAt(into);
        if (asked == null || textSlot == null || target == null) {
            return BAD;
        }
        if (textSlot.text == null) {
            return NOTHING;
        }
        String found = asked.keyAt(asked.placeFrom(textSlot.text));
        if (found == null) {
            return NONE;
        }
        return putInto(target, found);
    }

    public int alike(int layer, int other) {
        Layer one = layers.layerAt(layer);
        Layer two = layers.layerAt(other);
        if (one == null || two == null) {
            return BAD;
        }
        return one.hasEntriesOf(two) ? 1 : 0;
    }

    public int digest(int layer) {
        Layer asked = layers.layerAt(layer);
        if (asked == null) {
            return 0;
        }
        return asked.digestNumber();
    }

    // ---- tokenizers

    public int tokenize(int tokenizer, int text) {
        Slot textSlot = slotAt(text);
        if (!isWithin(tokenizer, TOKENIZERS) || textSlot == null) {
            return BAD;
        }
        if (textSlot.text == null) {
            return refuseNull();
        }
        return makeTokenizer(tokenizer, textSlot.text, STANDARD_DELIMITERS, false);
    }

    public int tokenizeBy(int tokenizer, int text, int delimiters) {
        return tokenizeSlots(tokenizer, text, delimiters, false);
    }

    public int tokenizeAll(int tokenizer, int text, int delimiters) {
        return tokenizeSlots(tokenizer, text, delimiters, true);
    }

    public int tokenizeValue(int tokenizer, int layer, int key, int delimiters) {
        Slot keySlot = slotAt(key);
        Slot delimiterSlot = slotAt(delimiters);
        if (!isWithin(tokenizer, TOKENIZERS) || layers.layerAt(layer) == null) {
            return BAD;
        }
        if (keySlot == null || delimiterSlot == null) {
            return BAD;
        }
        if (delimiterSlot.text == null) {
            return NOTHING;
        }
        if (keySlot.text == null) {
            return refuseNull();
        }
        String value = layers.lookUp(layer, keySlot.text);
        if (value == null) {
            return NONE;
        }
        return makeTokenizer(tokenizer, value, delimiterSlot.text, false);
    }

    public int more(int tokenizer) {
        if (!isWithin(tokenizer, TOKENIZERS)) {
            return BAD;
        }
        Tokenizer asked = tokenizers[tokenizer];
        if (asked == null) {
            return NOT_MADE;
        }
        return asked.hasToken() ? 1 : 0;
    }

    public int count(int tokenizer) {
        if (!isWithin(tokenizer, TOKENIZERS)) {
            return BAD;
        }
        Tokenizer asked = tokenizers[tokenizer];
        if (asked == null) {
            return NOT_MADE;
        }
        return asked.tokensLeft();
    }

    public int next(int tokenizer, int into) {
        Slot target = slotAt(into);
        if (!isWithin(tokenizer, TOKENIZERS) || target == null) {
            return BAD;
        }
        Tokenizer asked = tokenizers[tokenizer];
        if (asked == null) {
            return NOT_MADE;
        }
        if (!asked.hasToken()) {
            return refuseToken(tokenizer);
        }
        return putInto(target, asked.takeToken());
    }

    public int nextBy(int tokenizer, int delimiters, int into) {
        Slot delimiterSlot = slotAt(delimiters);
        Slot target = slotAt(into);
        if (!isWithin(tokenizer, TOKENIZERS) || delimiterSlot == null || target == null) {
            return BAD;
        }
        Tokenizer asked = tokenizers[tokenizer];
        if (asked == null) {
            return NOT_MADE;
        }
        if (delimiterSlot.text == null) {
            return NOTHING;
        }
        asked.delimiters = delimiterSlot.text;
        if (!asked.hasToken()) {
            return refuseToken(tokenizer);
        }
        return putInto(target, asked.takeToken());
    }

    // ---- joiners

    public int join(int joiner, int delimiter) {
        Slot delimiterSlot = slotAt(delimiter);
        if (!isWithin(joiner, JOINERS) || delimiterSlot == null) {
            return BAD;
        }
        if (delimiterSlot.text == null) {
            return refuseNull();
        }
        joiners[joiner] = new Joiner(delimiterSlot.text, "", "");
        return 0;
    }

    public int joinWithin(int joiner, int delimiter, int prefix, int suffix) {
        Slot delimiterSlot = slotAt(delimiter);
        Slot prefixSlot = slotAt(prefix);
        Slot suffixSlot = slotAt(suffix);
        if (!isWithin(joiner, JOINERS)) {
            return BAD;
        }
        if (delimiterSlot == null || prefixSlot == null || suffixSlot == null) {
            return BAD;
        }
        if (delimiterSlot.text == null || prefixSlot.text == null || suffixSlot.text == null) {
            return refuseNull();
        }
        if (prefixSlot.text.length() + suffixSlot.text.length() > TEXT_LIMIT) {
            return FULL;
        }
        Joiner made = new Joiner(delimiterSlot.text, prefixSlot.text, suffixSlot.text);
        joiners[joiner] = made;
        return made.resultLength();
    }

    public int add(int joiner, int text) {
        Slot textSlot = slotAt(text);
        if (!isWithin(joiner, JOINERS) || textSlot == null) {
            return BAD;
        }
        Joiner changed = joiners[joiner];
        if (changed == null) {
            return NOT_MADE;
        }
        return addTo(changed, textSlot.text == null ? NULL_LETTERS : textSlot.text);
    }

    public int ifEmpty(int joiner, int text) {
        Slot textSlot = slotAt(text);
        if (!isWithin(joiner, JOINERS) || textSlot == null) {
            return BAD;
        }
        Joiner changed = joiners[joiner];
        if (changed == null) {
            return NOT_MADE;
        }
        if (textSlot.text == null) {
            return refuseNull();
        }
        changed.textIfEmpty = textSlot.text;
        return changed.resultLength();
    }

    public int merge(int joiner, int other) {
        if (!isWithin(joiner, JOINERS) || !isWithin(other, JOINERS) || joiner == other) {
            return BAD;
        }
        Joiner changed = joiners[joiner];
        Joiner source = joiners[other];
        if (changed == null || source == null) {
            return NOT_MADE;
        }
        if (source.elements == null) {
            return changed.resultLength();
        }
        return addTo(changed, source.elements);
    }

    public int joined(int joiner, int into) {
        Slot target = slotAt(into);
        if (!isWithin(joiner, JOINERS) || target == null) {
            return BAD;
        }
        Joiner asked = joiners[joiner];
        if (asked == null) {
            return NOT_MADE;
        }
        return putInto(target, asked.result());
    }

    public int joinedLength(int joiner) {
        if (!isWithin(joiner, JOINERS)) {
            return BAD;
        }
        Joiner asked = joiners[joiner];
        if (asked == null) {
            return NOT_MADE;
        }
        return asked.resultLength();
    }

    public int setJoined(int layer, int key, int joiner) {
        Layer changed = layers.layerAt(layer);
        Slot keySlot = slotAt(key);
        if (changed == null || keySlot == null || !isWithin(joiner, JOINERS)) {
            return BAD;
        }
        Joiner source = joiners[joiner];
        if (source == null) {
            return NOT_MADE;
        }
        if (keySlot.text == null) {
            return refuseNull();
        }
        if (!changed.put(keySlot.text, source.result())) {
            return FULL;
        }
        return changed.entryCount();
    }

    // ---- images, refusals

    public int keep(int image) {
        if (!isWithin(image, IMAGES)) {
            return BAD;
        }
        LayerPile kept = images[image];
        if (kept == null) {
            kept = new LayerPile();
            images[image] = kept;
        }
        kept.takeAll(layers);
        return kept.entryCount();
    }

    public int restore(int image) {
        if (!isWithin(image, IMAGES)) {
            return BAD;
        }
        LayerPile kept = images[image];
        if (kept == null) {
            return NOT_MADE;
        }
        layers.takeAll(kept);
        return layers.entryCount();
    }

    public int refusals(int kind) {
        switch (kind) {
            case 0:
                return nullPointers;
            case 1:
                return noSuchElements;
            default:
                return BAD;
        }
    }

    // ---- what the methods above share

    private Slot slotAt(int slot) {
        return isWithin(slot, SLOTS) ? slots[slot] : null;
    }

    private int firstBrokenPlace() {
        tape.rewind();
        int entriesRead = 0;
        while (entriesRead <= TEXT_LIMIT && tape.readEntry()) {
            int broken = tape.brokenPlace();
            if (broken != NONE) {
                return broken;
            }
            entriesRead++;
        }
        return NONE;
    }

    private int tokenizeSlots(int tokenizer, int text, int delimiters, boolean returning) {
        Slot textSlot = slotAt(text);
        Slot delimiterSlot = slotAt(delimiters);
        if (!isWithin(tokenizer, TOKENIZERS) || textSlot == null || delimiterSlot == null) {
            return BAD;
        }
        if (delimiterSlot.text == null) {
            return NOTHING;
        }
        if (textSlot.text == null) {
            return refuseNull();
        }
        return makeTokenizer(tokenizer, textSlot.text, delimiterSlot.text, returning);
    }

    private int makeTokenizer(int tokenizer, String text, String delimiters, boolean returning) {
        if (!isWithin(tokenizer, TOKENIZERS)) {
            return BAD;
        }
        Tokenizer made = new Tokenizer(text, delimiters, returning);
        tokenizers[tokenizer] = made;
        return made.tokensLeft();
    }

    private int refuseNull() {
        nullPointers++;
        return NULL_POINTER;
    }

    private int refuseToken(int tokenizer) {
        if (isWithin(tokenizer, TOKENIZERS)) {
            tokenizers[tokenizer] = null;
        }
        noSuchElements++;
        return NO_SUCH_ELEMENT;
    }

    private static int putInto(Slot target, String text) {
        target.text = text;
        return text.length();
    }

    private static int addTo(Joiner joiner, String element) {
        if (joiner.lengthWith(element) > TEXT_LIMIT) {
            return FULL;
        }
        joiner.addElement(element);
        return joiner.resultLength();
    }

    private static int lengthOrNothing(String text) {
        return text == null ? NOTHING : text.length();
    }

    private static boolean isWithin(int number, int bound) {
        return number >= 0 && number < bound;
    }

    private static boolean isTyped(int character) {
        return character == '\t' || character == '\n' || character == '\r' || isPrinted(character);
    }

    private static boolean isPrinted(int character) {
        return character >= FIRST_PRINTED && character <= LAST_PRINTED;
    }

    private static boolean isBlank(int character) {
        return character == ' ' || character == '\t';
    }

    private static int compareTexts(String one, String two) {
        int shorter = Math.min(one.length(), two.length());
        for (int place = 0; place < shorter; place++) {
            int difference = one.charAt(place) - two.charAt(place);
            if (difference != 0) {
                return difference;
            }
        }
        return one.length() - two.length();
    }

    /** A slot: its text, or null where it holds nothing. */
    private static final class Slot {
        private String text;
    }

    /** An entry never changes, so that layers and images may share it. */
    private static final class Entry {
        private final String key;
        private final String value;

        Entry(String key, String value) {
            this.key = key;
            this.value = value;
        }
    }

    /** The entries of one layer, in ascending order of their keys. */
    private static final class Layer {
        private final Entry[] entries = new Entry[ENTRY_LIMIT];
        private int filled;

        int entryCount() {
            return filled;
        }

        /** The entry at a place, or null if there is none. */
        Entry entryAt(int place) {
            return isWithin(place, filled) && place < ENTRY_LIMIT ? entries[place] : null;
        }

        String keyAt(int place) {
            Entry entry = entryAt(place);
            return entry == null ? null : entry.key;
        }

        /** The place of the lowest key that is not lower than a text; behind all entries if there is none. */
        int placeFrom(String text) {
            for (int place = 0; place < filled; place++) {
                Entry entry = entryAt(place);
                if (entry != null && compareTexts(entry.key, text) >= 0) {
                    return place;
                }
            }
            return filled;
        }

        /** The value of a key, or null if there is no such entry. */
        String valueOf(String key) {
            Entry entry = entryAt(placeFrom(key));
            return entry != null && entry.key.equals(key) ? entry.value : null;
        }

        /** Tells whether the entry found room; where it did not, nothing has changed. */
        boolean put(String key, String value) {
            int place = placeFrom(key);
            Entry present = entryAt(place);
            if (present == null || !present.key.equals(key)) {
                if (filled >= ENTRY_LIMIT) {
                    return false;
                }
                for (int moved = filled; moved > place; moved--) {
                    entries[moved] = entries[moved - 1];
                }
                filled++;
            }
            entries[place] = new Entry(key, value);
            return true;
        }

        void remove(String key) {
            int place = placeFrom(key);
            Entry present = entryAt(place);
            if (present == null || !present.key.equals(key)) {
                return;
            }
            for (int moved = place + 1; moved < filled; moved++) {
                entries[moved - 1] = entries[moved];
            }
            filled--;
        }

        void removeAll() {
            filled = 0;
        }

        void takeAll(Layer other) {
            for (int place = 0; place < other.filled; place++) {
                entries[place] = other.entries[place];
            }
            filled = other.filled;
        }

        boolean hasEntriesOf(Layer other) {
            if (filled != other.filled) {
                return false;
            }
            for (int place = 0; place < filled; place++) {
                Entry mine = entryAt(place);
                Entry theirs = other.entryAt(place);
                if (mine == null || theirs == null) {
                    return false;
                }
                if (!mine.key.equals(theirs.key) || !mine.value.equals(theirs.value)) {
                    return false;
                }
            }
            return true;
        }

        int digestNumber() {
            int digest = DIGEST_START;
            for (int place = 0; place < filled; place++) {
                Entry entry = entryAt(place);
                if (entry != null) {
                    digest = digestOn(digest, entry.key, DIGEST_KEY_END);
                    digest = digestOn(digest, entry.value, DIGEST_VALUE_END);
                }
            }
            return digest;
        }

        private static int digestOn(int start, String text, int endMark) {
            int digest = start;
            for (int place = 0; place < text.length(); place++) {
                digest = DIGEST_FACTOR * digest + text.charAt(place);
            }
            return DIGEST_FACTOR * digest + endMark;
        }

        /** Counted ahead of writing, so that a layer that does not fit leaves the tape alone. */
        int writtenLength() {
            int written = 0;
            for (int place = 0; place < filled; place++) {
                Entry entry = entryAt(place);
                if (entry != null) {
                    written += Escapes.escapedLength(entry.key) + 1;
                    written += Escapes.escapedLength(entry.value) + 1;
                }
            }
            return written;
        }

        void writeOnto(StringBuilder tape) {
            for (int place = 0; place < filled; place++) {
                Entry entry = entryAt(place);
                if (entry != null) {
                    Escapes.escapeOnto(tape, entry.key);
                    tape.append('=');
                    Escapes.escapeOnto(tape, entry.value);
                    tape.append('\n');
                }
            }
        }
    }

    /** All four layers: those of the drawer, or those that an image keeps. */
    private static final class LayerPile {
        private final Layer[] pile = new Layer[LAYERS];

        LayerPile() {
            for (int layer = 0; layer < LAYERS; layer++) {
                pile[layer] = new Layer();
            }
        }

        /** The layer with a number, or null if there is none. */
        Layer layerAt(int layer) {
            return isWithin(layer, LAYERS) ? pile[layer] : null;
        }

        /** The highest layer, from a given one downwards, that has a key; NONE without one. */
        int layerHaving(int top, String key) {
            for (int layer = top; layer >= 0; layer--) {
                Layer asked = layerAt(layer);
                if (asked != null && asked.valueOf(key) != null) {
                    return layer;
                }
            }
            return NONE;
        }

        /** The value that a lookup finds, or null if it finds none. */
        String lookUp(int top, String key) {
            Layer found = layerAt(layerHaving(top, key));
            return found == null ? null : found.valueOf(key);
        }

        int entryCount() {
            int entries = 0;
            for (Layer layer : pile) {
                entries += layer.entryCount();
            }
            return entries;
        }

        void takeAll(LayerPile other) {
            for (int layer = 0; layer < LAYERS; layer++) {
                pile[layer].takeAll(other.pile[layer]);
            }
        }
    }

    /** A walk over the names that are seen from a layer, in ascending order, each once. */
    private static final class NameWalk {
        private final LayerPile layers;
        private final int top;
        private final int[] cursors = new int[LAYERS];

        NameWalk(LayerPile layers, int top) {
            this.layers = layers;
            this.top = Math.min(top, LAYERS - 1);
        }

        /** The next name, or null behind the last one. */
        String nextName() {
            String lowest = null;
            for (int layer = 0; layer <= top; layer++) {
                String key = keyAtCursor(layer);
                if (key != null && (lowest == null || compareTexts(key, lowest) < 0)) {
                    lowest = key;
                }
            }
            if (lowest != null) {
                stepOver(lowest);
            }
            return lowest;
        }

        private void stepOver(String name) {
            for (int layer = 0; layer <= top; layer++) {
                String key = keyAtCursor(layer);
                if (key != null && key.equals(name)) {
                    cursors[layer]++;
                }
            }
        }

        private String keyAtCursor(int layer) {
            Layer asked = layers.layerAt(layer);
            return asked == null ? null : asked.keyAt(cursors[layer]);
        }
    }

    /** How characters of keys and values are told on the tape. */
    private static final class Escapes {
        static int escapedLength(String text) {
            int escaped = 0;
            for (int place = 0; place < text.length(); place++) {
                int sign = text.charAt(place);
                if (letterFor(sign) != NO_SIGN) {
                    escaped += 2;
                } else {
                    escaped += isPrinted(sign) ? 1 : 2 + UNICODE_DIGITS;
                }
            }
            return escaped;
        }

        static void escapeOnto(StringBuilder tape, String text) {
            for (int place = 0; place < text.length(); place++) {
                int sign = text.charAt(place);
                int letter = letterFor(sign);
                if (letter != NO_SIGN) {
                    tape.append('\\');
                    tape.append((char) letter);
                } else if (isPrinted(sign)) {
                    tape.append((char) sign);
                } else {
                    tape.append('\\');
                    tape.append('u');
                    for (int shift = 4 * (UNICODE_DIGITS - 1); shift >= 0; shift -= 4) {
                        tape.append(HEX_DIGITS.charAt((sign >> shift) & 15));
                    }
                }
            }
        }

        /** What stands behind the backslash for a character that is written as a pair; otherwise NO_SIGN. */
        private static int letterFor(int sign) {
            switch (sign) {
                case '\t':
                    return 't';
                case '\n':
                    return 'n';
                case '\r':
                    return 'r';
                case '\\':
                case '=':
                case ':':
                case '#':
                case '!':
                case ' ':
                    return sign;
                default:
                    return NO_SIGN;
            }
        }

        /** What a backslash and a character other than u stand for. */
        static char characterFor(int letter) {
            switch (letter) {
                case 't':
                    return '\t';
                case 'n':
                    return '\n';
                case 'r':
                    return '\r';
                default:
                    return (char) letter;
            }
        }

        /** The number of a hexadecimal digit; NO_NUMBER for another character. */
        static int digitNumber(int sign) {
            if (sign >= '0' && sign <= '9') {
                return sign - '0';
            }
            if (sign >= 'a' && sign <= 'f') {
                return sign - 'a' + 10;
            }
            if (sign >= 'A' && sign <= 'F') {
                return sign - 'A' + 10;
            }
            return NO_NUMBER;
        }
    }

    /** The tape, and the entry on it that is read at present. */
    private static final class Tape {
        private final StringBuilder signs = new StringBuilder();
        // The characters of the entry, each as its index on the tape: a broken pair is told by it.
        private final int[] places = new int[TEXT_LIMIT];
        private final StringBuilder unescaped = new StringBuilder();
        private int filled;
        private int lineStart;
        private int keyEnd;
        private int valueStart;

        void rewind() {
            lineStart = 0;
            filled = 0;
        }

        /** Goes on to the next entry, and tells whether there is one. */
        boolean readEntry() {
            filled = 0;
            for (int lines = 0; lines <= TEXT_LIMIT && filled == 0 && lineStart < signs.length(); lines++) {
                readEntryLines();
            }
            splitEntry();
            return filled > 0;
        }

        String keyText() {
            unescape(0, keyEnd);
            return unescaped.toString();
        }

        String valueText() {
            unescape(valueStart, filled);
            return unescaped.toString();
        }

        /** The tape's index of the first broken pair of this entry; NONE if there is none. */
        int brokenPlace() {
            int broken = unescape(0, keyEnd);
            return broken != NONE ? broken : unescape(valueStart, filled);
        }

        /** Reads one line, and those with which its entry goes on; a line that is skipped leaves the entry empty. */
        private void readEntryLines() {
            int end = lineEnd();
            int first = skipBlanks(end);
            if (first < end && (tapeSign(first) == '#' || tapeSign(first) == '!')) {
                lineStart = behindLineEnd(end);
                return;
            }
            boolean goesOn = takeLine(first, end);
            lineStart = behindLineEnd(end);
            for (int lines = 0; lines <= TEXT_LIMIT && goesOn && lineStart < signs.length(); lines++) {
                end = lineEnd();
                goesOn = takeLine(skipBlanks(end), end);
                lineStart = behindLineEnd(end);
            }
        }

        private int lineEnd() {
            int end = lineStart;
            while (end < signs.length() && tapeSign(end) != '\n' && tapeSign(end) != '\r') {
                end++;
            }
            return end;
        }

        private int behindLineEnd(int end) {
            if (tapeSign(end) == '\r' && tapeSign(end + 1) == '\n') {
                return end + 2;
            }
            return end + 1;
        }

        private int skipBlanks(int end) {
            int first = lineStart;
            while (first < end && isBlank(tapeSign(first))) {
                first++;
            }
            return first;
        }

        /** Adds a line to the entry, and tells whether the entry goes on with the next line. */
        private boolean takeLine(int first, int end) {
            int slashes = 0;
            while (slashes < end - first && tapeSign(end - 1 - slashes) == '\\') {
                slashes++;
            }
            boolean goesOn = slashes % 2 == 1;
            int last = goesOn ? end - 1 : end;
            for (int place = first; place < last && filled < TEXT_LIMIT; place++) {
                places[filled] = place;
                filled++;
            }
            return goesOn;
        }

        private void splitEntry() {
            int place = 0;
            while (place < filled && !endsKey(entrySign(place))) {
                place += entrySign(place) == '\\' ? 2 : 1;
            }
            keyEnd = Math.min(place, filled);
            place = skipEntryBlanks(keyEnd);
            if (entrySign(place) == '=' || entrySign(place) == ':') {
                place = skipEntryBlanks(place + 1);
            }
            valueStart = place;
        }

        private int skipEntryBlanks(int from) {
            int place = from;
            while (place < filled && isBlank(entrySign(place))) {
                place++;
            }
            return place;
        }

        /** Puts a part of the entry into unescaped; returns the tape's index of its first broken pair, or NONE. */
        private int unescape(int from, int to) {
            unescaped.setLength(0);
            int place = from;
            while (place < to) {
                int sign = entrySign(place);
                if (sign != '\\') {
                    unescaped.append((char) sign);
                    place++;
                } else if (entrySign(place + 1) != 'u') {
                    unescaped.append(Escapes.characterFor(entrySign(place + 1)));
                    place += 2;
                } else {
                    int number = unicodeNumber(place + 2, to);
                    if (number == NO_NUMBER || number > HIGHEST_CHARACTER) {
                        return tapePlace(place);
                    }
                    unescaped.append((char) number);
                    place += 2 + UNICODE_DIGITS;
                }
            }
            return NONE;
        }

        /** The number that four digits from a place on tell; NO_NUMBER if they do not stand there. */
        private int unicodeNumber(int from, int to) {
            if (from + UNICODE_DIGITS > to) {
                return NO_NUMBER;
            }
            int number = 0;
            for (int place = from; place < from + UNICODE_DIGITS; place++) {
                int digit = Escapes.digitNumber(entrySign(place));
                if (digit == NO_NUMBER) {
                    return NO_NUMBER;
                }
                number = 16 * number + digit;
            }
            return number;
        }

        private static boolean endsKey(int sign) {
            return sign == '=' || sign == ':' || isBlank(sign);
        }

        private int entrySign(int place) {
            return tapeSign(tapePlace(place));
        }

        private int tapePlace(int place) {
            return place >= 0 && place < filled && place < TEXT_LIMIT ? places[place] : NONE;
        }

        private int tapeSign(int place) {
            return place >= 0 && place < signs.length() ? signs.charAt(place) : NO_SIGN;
        }
    }

    /** A text that is cut into tokens, from a position on. */
    private static final class Tokenizer {
        private final String text;
        private final boolean returning;
        private String delimiters;
        private int position;

        Tokenizer(String text, String delimiters, boolean returning) {
            this.text = text;
            this.delimiters = delimiters;
            this.returning = returning;
        }

        boolean hasToken() {
            return tokenStart(position) < text.length();
        }

        int tokensLeft() {
            int tokens = 0;
            int start = tokenStart(position);
            while (start < text.length() && tokens < text.length()) {
                tokens++;
                start = tokenStart(tokenEnd(start));
            }
            return tokens;
        }

        /** The next token, or the empty text if there is none. */
        String takeToken() {
            int start = tokenStart(position);
            position = tokenEnd(start);
            return start < position ? text.substring(start, position) : "";
        }

        private int tokenStart(int from) {
            int start = from;
            while (!returning && start < text.length() && isDelimiter(start)) {
                start++;
            }
            return start;
        }

        private int tokenEnd(int start) {
            if (returning && start < text.length() && isDelimiter(start)) {
                return start + 1;
            }
            int end = start;
            while (end < text.length() && !isDelimiter(end)) {
                end++;
            }
            return end;
        }

        private boolean isDelimiter(int place) {
            return isWithin(place, text.length()) && delimiters.indexOf(text.charAt(place)) >= 0;
        }
    }

    /** Elements between a prefix and a suffix, with a delimiter between them. */
    private static final class Joiner {
        private final String delimiter;
        private final String prefix;
        private final String suffix;
        // The elements with the delimiter between them; null as long as there are none.
        private String elements;
        // The result as long as there are no elements; null if prefix and suffix are it.
        private String textIfEmpty;

        Joiner(String delimiter, String prefix, String suffix) {
            this.delimiter = delimiter;
            this.prefix = prefix;
            this.suffix = suffix;
        }

        int resultLength() {
            if (elements != null) {
                return prefix.length() + elements.length() + suffix.length();
            }
            return textIfEmpty != null ? textIfEmpty.length() : prefix.length() + suffix.length();
        }

        String result() {
            if (elements != null) {
                return together(prefix, elements, suffix);
            }
            return textIfEmpty != null ? textIfEmpty : together(prefix, "", suffix);
        }

        /** The length that the result would have with one more element. */
        int lengthWith(String element) {
            int ahead = elements == null ? 0 : elements.length() + delimiter.length();
            return prefix.length() + ahead + element.length() + suffix.length();
        }

        void addElement(String element) {
            elements = elements == null ? element : together(elements, delimiter, element);
        }

        private static String together(String first, String second, String third) {
            StringBuilder all = new StringBuilder();
            all.append(first);
            all.append(second);
            all.append(third);
            return all.toString();
        }
    }
}
