import java.util.ArrayList;
import java.util.Arrays;
import java.util.List;
import java.util.Map;
import java.util.NoSuchElementException;
import java.util.StringJoiner;
import java.util.StringTokenizer;
import java.util.TreeMap;
import java.util.TreeSet;

/** The document told a second time, by the library's own classes: what RandomRunsTests measures the program by. */
final class Model {
    private static final int BAD = -1, NOTHING = -2, FULL = -3, NOT_MADE = -4, NONE = -5, BROKEN = -6;
    private static final int NULL_POINTER = -7, NO_SUCH_ELEMENT = -8;

    private final String[] slots = new String[6];
    private String tape = "";
    private List<TreeMap<String, String>> layers = emptyLayers();
    private final List<List<TreeMap<String, String>>> images = new ArrayList<>(Arrays.asList(null, null));
    private final StringTokenizer[] tokenizers = new StringTokenizer[2];
    private final Joining[] joiners = new Joining[3];
    private final int[] refused = new int[2];

    /** What a joiner was told; a java.util.StringJoiner is made of it for each answer. */
    private static final class Joining {
        String delimiter;
        String prefix;
        String suffix;
        String emptyValue;
        List<String> elements = new ArrayList<>();

        Joining(String delimiter, String prefix, String suffix) {
            this.delimiter = delimiter;
            this.prefix = prefix;
            this.suffix = suffix;
        }

        StringJoiner made() {
            StringJoiner made = new StringJoiner(delimiter, prefix, suffix);
            if (emptyValue != null) {
                made.setEmptyValue(emptyValue);
            }
            for (String element : elements) {
                made.add(element);
            }
            return made;
        }
    }

    private static List<TreeMap<String, String>> emptyLayers() {
        List<TreeMap<String, String>> all = new ArrayList<>();
        for (int i = 0; i < 4; i++) {
            all.add(new TreeMap<>());
        }
        return all;
    }

    private static boolean in(int bound, int... numbers) {
        for (int number : numbers) {
            if (number < 0 || number >= bound) {
                return false;
            }
        }
        return true;
    }

    private int put(int into, String text) {
        slots[into] = text;
        return text.length();
    }

    private int refuse(int answer) {
        refused[answer == NULL_POINTER ? 0 : 1]++;
        return answer;
    }

    private static int lengthOf(String text) {
        return text == null ? NOTHING : text.length();
    }

    int erase(int slot) {
        if (!in(6, slot)) {
            return BAD;
        }
        int length = lengthOf(slots[slot]);
        slots[slot] = "";
        return length;
    }

    int forget(int slot) {
        if (!in(6, slot)) {
            return BAD;
        }
        int length = lengthOf(slots[slot]);
        slots[slot] = null;
        return length;
    }

    int append(int slot, int character) {
        if (!in(6, slot) || !in(256, character)) {
            return BAD;
        }
        if (slots[slot] == null) {
            return NOTHING;
        }
        return slots[slot].length() == 300 ? FULL : put(slot, slots[slot] + (char) character);
    }

    int length(int slot) {
        return in(6, slot) ? lengthOf(slots[slot]) : BAD;
    }

    int characterAt(int slot, int place) {
        if (!in(6, slot)) {
            return BAD;
        }
        if (slots[slot] == null) {
            return NOTHING;
        }
        return in(slots[slot].length(), place) ? slots[slot].charAt(place) : NONE;
    }

    int copy(int from, int to) {
        if (!in(6, from, to)) {
            return BAD;
        }
        slots[to] = slots[from];
        return lengthOf(slots[from]);
    }

    int same(int slot, int other) {
        if (!in(6, slot, other)) {
            return BAD;
        }
        return java.util.Objects.equals(slots[slot], slots[other]) ? 1 : 0;
    }

    int type(int character) {
        if (character != 9 && character != 10 && character != 13 && (character < 32 || character > 126)) {
            return BAD;
        }
        if (tape.length() == 300) {
            return FULL;
        }
        tape += (char) character;
        return tape.length();
    }

    int tapeLength() {
        return tape.length();
    }

    int tapeAt(int place) {
        return in(tape.length(), place) ? tape.charAt(place) : NONE;
    }

    int wipe() {
        int length = tape.length();
        tape = "";
        return length;
    }

    int load(int layer) {
        if (!in(4, layer)) {
            return BAD;
        }
        TapeModel read = new TapeModel(tape);
        if (read.brokenAt >= 0) {
            return BROKEN;
        }
        TreeMap<String, String> all = new TreeMap<>(layers.get(layer));
        for (String[] entry : read.entries) {
            all.put(entry[0], entry[1]);
        }
        if (all.size() > 40) {
            return FULL;
        }
        layers.set(layer, all);
        return read.entries.size();
    }

    int brokenAt() {
        int place = new TapeModel(tape).brokenAt;
        return place < 0 ? NONE : place;
    }

    int write(int layer) {
        if (!in(4, layer)) {
            return BAD;
        }
        StringBuilder all = new StringBuilder();
        for (Map.Entry<String, String> entry : layers.get(layer).entrySet()) {
            all.append(escaped(entry.getKey())).append('=').append(escaped(entry.getValue())).append('\n');
        }
        if (all.length() > 300) {
            return FULL;
        }
        tape = all.toString();
        return tape.length();
    }

    private static String escaped(String text) {
        StringBuilder all = new StringBuilder();
        for (char c : text.toCharArray()) {
            int letter = "\t\n\r".indexOf(c);
            if (letter >= 0) {
                all.append('\\').append("tnr".charAt(letter));
            } else if ("\\=:#! ".indexOf(c) >= 0) {
                all.append('\\').append(c);
            } else if (c < 32 || c > 126) {
                all.append(String.format("\\u%04x", (int) c));
            } else {
                all.append(c);
            }
        }
        return all.toString();
    }

    private String lookUp(int layer, String key) {
        String found = null;
        for (int i = layer; i >= 0 && found == null; i--) {
            found = layers.get(i).get(key);
        }
        return found;
    }

    int get(int layer, int key, int into) {
        if (!in(4, layer) || !in(6, key, into)) {
            return BAD;
        }
        try {
            String value = lookUp(layer, slots[key]);
            return value == null ? NONE : put(into, value);
        } catch (NullPointerException e) {
            return refuse(NULL_POINTER);
        }
    }

    int getOr(int layer, int key, int other, int into) {
        if (!in(4, layer) || !in(6, key, other, into)) {
            return BAD;
        }
        try {
            String value = lookUp(layer, slots[key]);
            if (value == null && slots[other] == null) {
                return NOTHING;
            }
            return put(into, value == null ? slots[other] : value);
        } catch (NullPointerException e) {
            return refuse(NULL_POINTER);
        }
    }

    int has(int layer, int key) {
        if (!in(4, layer) || !in(6, key)) {
            return BAD;
        }
        try {
            return layers.get(layer).containsKey(slots[key]) ? 1 : 0;
        } catch (NullPointerException e) {
            return refuse(NULL_POINTER);
        }
    }

    int layerOf(int layer, int key) {
        if (!in(4, layer) || !in(6, key)) {
            return BAD;
        }
        try {
            int found = layer;
            while (found >= 0 && !layers.get(found).containsKey(slots[key])) {
                found--;
            }
            return found < 0 ? NONE : found;
        } catch (NullPointerException e) {
            return refuse(NULL_POINTER);
        }
    }

    int set(int layer, int key, int value, int into) {
        if (!in(4, layer) || !in(6, key, value, into)) {
            return BAD;
        }
        if (slots[value] == null) {
            return NOTHING;
        }
        if (slots[key] == null) {
            return refuse(NULL_POINTER);
        }
        TreeMap<String, String> map = layers.get(layer);
        if (!map.containsKey(slots[key]) && map.size() == 40) {
            return FULL;
        }
        slots[into] = map.put(slots[key], slots[value]);
        return map.size();
    }

    int drop(int layer, int key, int into) {
        if (!in(4, layer) || !in(6, key, into)) {
            return BAD;
        }
        try {
            String value = layers.get(layer).remove(slots[key]);
            if (value == null) {
                return NONE;
            }
            slots[into] = value;
            return layers.get(layer).size();
        } catch (NullPointerException e) {
            return refuse(NULL_POINTER);
        }
    }

    int empty(int layer) {
        if (!in(4, layer)) {
            return BAD;
        }
        int size = layers.get(layer).size();
        layers.get(layer).clear();
        return size;
    }

    int size(int layer) {
        return in(4, layer) ? layers.get(layer).size() : BAD;
    }

    private List<String> seen(int layer) {
        TreeSet<String> all = new TreeSet<>();
        for (int i = 0; i <= layer; i++) {
            all.addAll(layers.get(i).keySet());
        }
        return new ArrayList<>(all);
    }

    int names(int layer) {
        return in(4, layer) ? seen(layer).size() : BAD;
    }

    int name(int layer, int place, int into) {
        if (!in(4, layer) || !in(6, into)) {
            return BAD;
        }
        List<String> all = seen(layer);
        return in(all.size(), place) ? put(into, all.get(place)) : NONE;
    }

    int keyFrom(int layer, int text, int into) {
        if (!in(4, layer) || !in(6, text, into)) {
            return BAD;
        }
        if (slots[text] == null) {
            return NOTHING;
        }
        String found = layers.get(layer).ceilingKey(slots[text]);
        return found == null ? NONE : put(into, found);
    }

    int alike(int layer, int other) {
        if (!in(4, layer, other)) {
            return BAD;
        }
        return layers.get(layer).equals(layers.get(other)) ? 1 : 0;
    }

    int digest(int layer) {
        if (!in(4, layer)) {
            return 0;
        }
        int digest = 7;
        for (Map.Entry<String, String> entry : layers.get(layer).entrySet()) {
            for (int c : entry.getKey().chars().toArray()) {
                digest = 31 * digest + c;
            }
            digest = 31 * digest + 256;
            for (int c : entry.getValue().chars().toArray()) {
                digest = 31 * digest + c;
            }
            digest = 31 * digest + 257;
        }
        return digest;
    }

    int tokenize(int tokenizer, int text) {
        if (!in(2, tokenizer) || !in(6, text)) {
            return BAD;
        }
        try {
            tokenizers[tokenizer] = new StringTokenizer(slots[text]);
            return tokenizers[tokenizer].countTokens();
        } catch (NullPointerException e) {
            return refuse(NULL_POINTER);
        }
    }

    int tokenizeBy(int tokenizer, int text, int delimiters) {
        return tokenize(tokenizer, text, delimiters, false);
    }

    int tokenizeAll(int tokenizer, int text, int delimiters) {
        return tokenize(tokenizer, text, delimiters, true);
    }

    private int tokenize(int tokenizer, int text, int delimiters, boolean returning) {
        if (!in(2, tokenizer) || !in(6, text, delimiters)) {
            return BAD;
        }
        if (slots[delimiters] == null) {
            return NOTHING;
        }
        try {
            tokenizers[tokenizer] = new StringTokenizer(slots[text], slots[delimiters], returning);
            return tokenizers[tokenizer].countTokens();
        } catch (NullPointerException e) {
            return refuse(NULL_POINTER);
        }
    }

    int tokenizeValue(int tokenizer, int layer, int key, int delimiters) {
        if (!in(2, tokenizer) || !in(4, layer) || !in(6, key, delimiters)) {
            return BAD;
        }
        if (slots[delimiters] == null) {
            return NOTHING;
        }
        try {
            String value = lookUp(layer, slots[key]);
            if (value == null) {
                return NONE;
            }
            tokenizers[tokenizer] = new StringTokenizer(value, slots[delimiters]);
            return tokenizers[tokenizer].countTokens();
        } catch (NullPointerException e) {
            return refuse(NULL_POINTER);
        }
    }

    int more(int tokenizer) {
        if (!in(2, tokenizer)) {
            return BAD;
        }
        return tokenizers[tokenizer] == null ? NOT_MADE : tokenizers[tokenizer].hasMoreTokens() ? 1 : 0;
    }

    int count(int tokenizer) {
        if (!in(2, tokenizer)) {
            return BAD;
        }
        return tokenizers[tokenizer] == null ? NOT_MADE : tokenizers[tokenizer].countTokens();
    }

    int next(int tokenizer, int into) {
        if (!in(2, tokenizer) || !in(6, into)) {
            return BAD;
        }
        if (tokenizers[tokenizer] == null) {
            return NOT_MADE;
        }
        try {
            return put(into, tokenizers[tokenizer].nextToken());
        } catch (NoSuchElementException e) {
            tokenizers[tokenizer] = null;
            return refuse(NO_SUCH_ELEMENT);
        }
    }

    int nextBy(int tokenizer, int delimiters, int into) {
        if (!in(2, tokenizer) || !in(6, delimiters, into)) {
            return BAD;
        }
        if (tokenizers[tokenizer] == null) {
            return NOT_MADE;
        }
        if (slots[delimiters] == null) {
            return NOTHING;
        }
        try {
            return put(into, tokenizers[tokenizer].nextToken(slots[delimiters]));
        } catch (NoSuchElementException e) {
            tokenizers[tokenizer] = null;
            return refuse(NO_SUCH_ELEMENT);
        }
    }

    int join(int joiner, int delimiter) {
        if (!in(3, joiner) || !in(6, delimiter)) {
            return BAD;
        }
        if (slots[delimiter] == null) {
            return refuse(NULL_POINTER);
        }
        joiners[joiner] = new Joining(slots[delimiter], "", "");
        return 0;
    }

    int joinWithin(int joiner, int delimiter, int prefix, int suffix) {
        if (!in(3, joiner) || !in(6, delimiter, prefix, suffix)) {
            return BAD;
        }
        if (slots[delimiter] == null || slots[prefix] == null || slots[suffix] == null) {
            return refuse(NULL_POINTER);
        }
        Joining made = new Joining(slots[delimiter], slots[prefix], slots[suffix]);
        if (made.made().length() > 300) {
            return FULL;
        }
        joiners[joiner] = made;
        return made.made().length();
    }

    int add(int joiner, int text) {
        if (!in(3, joiner) || !in(6, text)) {
            return BAD;
        }
        if (joiners[joiner] == null) {
            return NOT_MADE;
        }
        if (joiners[joiner].made().add(slots[text]).length() > 300) {
            return FULL;
        }
        joiners[joiner].elements.add(slots[text]);
        return joiners[joiner].made().length();
    }

    int ifEmpty(int joiner, int text) {
        if (!in(3, joiner) || !in(6, text)) {
            return BAD;
        }
        if (joiners[joiner] == null) {
            return NOT_MADE;
        }
        if (slots[text] == null) {
            return refuse(NULL_POINTER);
        }
        joiners[joiner].emptyValue = slots[text];
        return joiners[joiner].made().length();
    }

    int merge(int joiner, int other) {
        if (!in(3, joiner, other) || joiner == other) {
            return BAD;
        }
        if (joiners[joiner] == null || joiners[other] == null) {
            return NOT_MADE;
        }
        StringJoiner merged = joiners[joiner].made().merge(joiners[other].made());
        if (merged.length() > 300) {
            return FULL;
        }
        if (!joiners[other].elements.isEmpty()) {
            joiners[joiner].elements.add(String.join(joiners[other].delimiter, joiners[other].elements));
        }
        return merged.length();
    }

    int joined(int joiner, int into) {
        if (!in(3, joiner) || !in(6, into)) {
            return BAD;
        }
        return joiners[joiner] == null ? NOT_MADE : put(into, joiners[joiner].made().toString());
    }

    int joinedLength(int joiner) {
        if (!in(3, joiner)) {
            return BAD;
        }
        return joiners[joiner] == null ? NOT_MADE : joiners[joiner].made().length();
    }

    int setJoined(int layer, int key, int joiner) {
        if (!in(4, layer) || !in(6, key) || !in(3, joiner)) {
            return BAD;
        }
        if (joiners[joiner] == null) {
            return NOT_MADE;
        }
        if (slots[key] == null) {
            return refuse(NULL_POINTER);
        }
        TreeMap<String, String> map = layers.get(layer);
        if (!map.containsKey(slots[key]) && map.size() == 40) {
            return FULL;
        }
        map.put(slots[key], joiners[joiner].made().toString());
        return map.size();
    }

    private static List<TreeMap<String, String>> copyOf(List<TreeMap<String, String>> layers) {
        List<TreeMap<String, String>> all = new ArrayList<>();
        for (TreeMap<String, String> layer : layers) {
            all.add(new TreeMap<>(layer));
        }
        return all;
    }

    private static int entries(List<TreeMap<String, String>> layers) {
        return layers.stream().mapToInt(TreeMap::size).sum();
    }

    int keep(int image) {
        if (!in(2, image)) {
            return BAD;
        }
        images.set(image, copyOf(layers));
        return entries(layers);
    }

    int restore(int image) {
        if (!in(2, image)) {
            return BAD;
        }
        if (images.get(image) == null) {
            return NOT_MADE;
        }
        layers = copyOf(images.get(image));
        return entries(layers);
    }

    int refusals(int kind) {
        return in(2, kind) ? refused[kind] : BAD;
    }
}
