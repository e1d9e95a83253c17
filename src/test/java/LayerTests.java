/** Promises 16 to 28: the layers. */
public final class LayerTests {
    public static void main(String[] args) {
        get();
        getOr();
        has();
        layerOf();
        set();
        setLimit();
        drop();
        emptyAndSize();
        names();
        name();
        manyNames();
        keyFrom();
        order();
        alike();
        digest();
        Check.finish("LayerTests");
    }

    private static SettingsDrawer threeLayers() {
        SettingsDrawer x = new SettingsDrawer();
        Check.entry(x, 0, "a", "a0");
        Check.entry(x, 0, "b", "b0");
        Check.entry(x, 1, "b", "b1b1");
        Check.entry(x, 1, "c", "");
        Check.entry(x, 3, "b", "b3");
        Check.entry(x, 3, "d", "d3");
        return x;
    }

    private static void get() {
        SettingsDrawer x = threeLayers();
        Check.put(x, 0, "b");
        Check.due("get(-1, 0, 1)", x.get(-1, 0, 1), SettingsDrawer.BAD);
        Check.due("get(4, 0, 1)", x.get(4, 0, 1), SettingsDrawer.BAD);
        Check.due("get(0, -1, 1)", x.get(0, -1, 1), SettingsDrawer.BAD);
        Check.due("get(0, 6, 1)", x.get(0, 6, 1), SettingsDrawer.BAD);
        Check.due("get(0, 0, -1)", x.get(0, 0, -1), SettingsDrawer.BAD);
        Check.due("get(0, 3, 6) of nothing", x.get(0, 3, 6), SettingsDrawer.BAD);
        Check.due("refusals(0) after BAD", x.refusals(0), 0);
        String[] want = {"b0", "b1b1", "b1b1", "b3"};
        for (int layer = 0; layer < 4; layer++) {
            Check.due("get(" + layer + ", b)", x.get(layer, 0, 1), want[layer].length());
            Check.dueText("value of b from " + layer, Check.read(x, 1), want[layer]);
        }
        Check.put(x, 2, "c");
        Check.put(x, 1, "stays");
        Check.due("get(0, c)", x.get(0, 2, 1), SettingsDrawer.NONE);
        Check.dueText("the slot after NONE", Check.read(x, 1), "stays");
        Check.due("get(2, c)", x.get(2, 2, 1), 0);
        Check.dueText("the empty value", Check.read(x, 1), "");
        Check.put(x, 1, "stays");
        Check.due("get of a key that is null", x.get(0, 3, 1), SettingsDrawer.NULL_POINTER);
        Check.due("get of a key that is null, no entries", new SettingsDrawer().get(0, 3, 1), SettingsDrawer.NULL_POINTER);
        Check.dueText("the slot after NULL_POINTER", Check.read(x, 1), "stays");
        Check.due("refusals(0)", x.refusals(0), 1);
        Check.due("get into the key's slot", x.get(3, 0, 0), 2);
        Check.dueText("the key's slot", Check.read(x, 0), "b3");
    }

    private static void getOr() {
        SettingsDrawer x = threeLayers();
        Check.put(x, 0, "b");
        Check.put(x, 1, "other");
        Check.due("getOr(-1, 0, 1, 2)", x.getOr(-1, 0, 1, 2), SettingsDrawer.BAD);
        Check.due("getOr(4, 0, 1, 2)", x.getOr(4, 0, 1, 2), SettingsDrawer.BAD);
        Check.due("getOr(3, 6, 1, 2)", x.getOr(3, 6, 1, 2), SettingsDrawer.BAD);
        Check.due("getOr(3, 0, 6, 2), with an entry", x.getOr(3, 0, 6, 2), SettingsDrawer.BAD);
        Check.due("getOr(3, 0, -1, 2), with an entry", x.getOr(3, 0, -1, 2), SettingsDrawer.BAD);
        Check.due("getOr(4, nothing, 1, 2)", x.getOr(4, 3, 1, 2), SettingsDrawer.BAD);
        Check.due("getOr(3, nothing, 6, 2)", x.getOr(3, 3, 6, 2), SettingsDrawer.BAD);
        Check.due("getOr(3, 0, 1, 6)", x.getOr(3, 0, 1, 6), SettingsDrawer.BAD);
        Check.due("getOr(3, b, other)", x.getOr(3, 0, 1, 2), 2);
        Check.dueText("with an entry", Check.read(x, 2), "b3");
        Check.due("getOr(3, b, nothing)", x.getOr(3, 0, 3, 2), 2);
        Check.put(x, 0, "d");
        Check.due("getOr(2, d, other)", x.getOr(2, 0, 1, 2), 5);
        Check.dueText("without an entry", Check.read(x, 2), "other");
        Check.due("getOr(2, d, nothing)", x.getOr(2, 0, 3, 2), SettingsDrawer.NOTHING);
        Check.dueText("the slot after NOTHING", Check.read(x, 2), "other");
        Check.due("getOr(2, nothing, nothing)", x.getOr(2, 3, 3, 2), SettingsDrawer.NULL_POINTER);
        Check.due("refusals(0)", x.refusals(0), 1);
        Check.due("getOr into the other's slot", x.getOr(2, 0, 1, 1), 5);
        Check.due("getOr of the key as the other", x.getOr(2, 0, 0, 0), 1);
        Check.dueText("the key's slot", Check.read(x, 0), "d");
    }

    private static void has() {
        SettingsDrawer x = threeLayers();
        Check.put(x, 0, "b");
        Check.due("has(-1, 0)", x.has(-1, 0), SettingsDrawer.BAD);
        Check.due("has(4, 0)", x.has(4, 0), SettingsDrawer.BAD);
        Check.due("has(4, nothing)", x.has(4, 3), SettingsDrawer.BAD);
        Check.due("has(0, 6)", x.has(0, 6), SettingsDrawer.BAD);
        int[] want = {1, 1, 0, 1};
        for (int layer = 0; layer < 4; layer++) {
            Check.due("has(" + layer + ", b)", x.has(layer, 0), want[layer]);
        }
        Check.put(x, 0, "c");
        Check.due("has(1, c), an empty value", x.has(1, 0), 1);
        Check.due("has(2, nothing)", x.has(2, 3), SettingsDrawer.NULL_POINTER);
        Check.due("refusals(0)", x.refusals(0), 1);
    }

    private static void layerOf() {
        SettingsDrawer x = threeLayers();
        Check.put(x, 0, "b");
        Check.due("layerOf(-1, 0)", x.layerOf(-1, 0), SettingsDrawer.BAD);
        Check.due("layerOf(4, 0)", x.layerOf(4, 0), SettingsDrawer.BAD);
        Check.due("layerOf(4, nothing)", x.layerOf(4, 5), SettingsDrawer.BAD);
        Check.due("layerOf(0, -1)", x.layerOf(0, -1), SettingsDrawer.BAD);
        int[] want = {0, 1, 1, 3};
        for (int layer = 0; layer < 4; layer++) {
            Check.due("layerOf(" + layer + ", b)", x.layerOf(layer, 0), want[layer]);
        }
        Check.put(x, 0, "d");
        Check.due("layerOf(2, d)", x.layerOf(2, 0), SettingsDrawer.NONE);
        Check.due("layerOf(3, d)", x.layerOf(3, 0), 3);
        Check.due("layerOf(3, nothing)", x.layerOf(3, 5), SettingsDrawer.NULL_POINTER);
        Check.due("refusals(0)", x.refusals(0), 1);
    }

    private static void set() {
        SettingsDrawer x = new SettingsDrawer();
        Check.put(x, 0, "k");
        Check.put(x, 1, "one");
        Check.put(x, 2, "before");
        Check.due("set(-1, 0, 1, 2)", x.set(-1, 0, 1, 2), SettingsDrawer.BAD);
        Check.due("set(4, 0, 1, 2)", x.set(4, 0, 1, 2), SettingsDrawer.BAD);
        Check.due("set(0, 6, 1, 2)", x.set(0, 6, 1, 2), SettingsDrawer.BAD);
        Check.due("set(0, 0, 6, 2)", x.set(0, 0, 6, 2), SettingsDrawer.BAD);
        Check.due("set(0, 0, 1, -1)", x.set(0, 0, 1, -1), SettingsDrawer.BAD);
        Check.due("set(0, 3, 3, 6) of nothing", x.set(0, 3, 3, 6), SettingsDrawer.BAD);
        Check.due("set(0, nothing, nothing)", x.set(0, 3, 3, 2), SettingsDrawer.NOTHING);
        Check.due("refusals(0) after NOTHING", x.refusals(0), 0);
        Check.due("set(0, nothing, one)", x.set(0, 3, 1, 2), SettingsDrawer.NULL_POINTER);
        Check.due("refusals(0) after NULL_POINTER", x.refusals(0), 1);
        Check.due("set(0, k, nothing)", x.set(0, 0, 3, 2), SettingsDrawer.NOTHING);
        Check.dueText("the slot after errors", Check.read(x, 2), "before");
        Check.due("size(0) after errors", x.size(0), 0);
        Check.due("set(0, k, one)", x.set(0, 0, 1, 2), 1);
        Check.due("no previous value", x.length(2), SettingsDrawer.NOTHING);
        Check.due("set(1, k, one): layer 0 does not count", x.set(1, 0, 1, 2), 1);
        Check.due("no previous value of this layer", x.length(2), SettingsDrawer.NOTHING);
        Check.put(x, 1, "two2");
        Check.due("set(0, k, two2)", x.set(0, 0, 1, 1), 1);
        Check.dueText("the previous value, in the value's slot", Check.read(x, 1), "one");
        x.get(0, 0, 2);
        Check.dueText("the value", Check.read(x, 2), "two2");
        x.get(1, 0, 2);
        Check.dueText("the value of layer 1", Check.read(x, 2), "one");
        Check.due("set(0, one, one, one)", x.set(0, 1, 1, 1), 2);
        Check.due("one slot for all", x.length(1), SettingsDrawer.NOTHING);
        Check.put(x, 1, "one");
        Check.due("get(0, one)", x.get(0, 1, 2), 3);
        x.append(2, '!');
        Check.due("the value stays as it is", x.get(0, 1, 3), 3);
    }

    private static void setLimit() {
        SettingsDrawer x = new SettingsDrawer();
        for (int i = 0; i < 40; i++) {
            x.erase(0);
            x.append(0, 200 - i);
            Check.due("set number " + (i + 1), x.set(2, 0, 0, 1), i + 1);
        }
        Check.put(x, 0, "new");
        Check.put(x, 1, "stays");
        int digest = x.digest(2);
        Check.due("set of the forty-first key", x.set(2, 0, 0, 1), SettingsDrawer.FULL);
        Check.dueText("the slot after FULL", Check.read(x, 1), "stays");
        Check.due("digest after FULL", x.digest(2), digest);
        Check.due("another layer has room", x.set(1, 0, 0, 2), 1);
        x.erase(0);
        x.append(0, 200);
        Check.due("set of the first key again", x.set(2, 0, 1, 3), 40);
        Check.due("its previous value", x.same(0, 3), 1);
        Check.due("NULL_POINTER comes before FULL", x.set(2, 4, 1, 3), SettingsDrawer.NULL_POINTER);
        Check.due("drop makes room", x.drop(2, 0, 3), 39);
        Check.put(x, 0, "new");
        Check.due("set into the room", x.set(2, 0, 0, 1), 40);
    }

    private static void drop() {
        SettingsDrawer x = threeLayers();
        Check.put(x, 0, "b");
        Check.put(x, 1, "stays");
        Check.due("drop(-1, 0, 1)", x.drop(-1, 0, 1), SettingsDrawer.BAD);
        Check.due("drop(4, 0, 1)", x.drop(4, 0, 1), SettingsDrawer.BAD);
        Check.due("drop(0, 6, 1)", x.drop(0, 6, 1), SettingsDrawer.BAD);
        Check.due("drop(0, 0, 6)", x.drop(0, 0, 6), SettingsDrawer.BAD);
        Check.due("drop(0, 3, 6) of nothing", x.drop(0, 3, 6), SettingsDrawer.BAD);
        Check.due("drop(4, 3, 1) of nothing", x.drop(4, 3, 1), SettingsDrawer.BAD);
        Check.due("drop(2, b)", x.drop(2, 0, 1), SettingsDrawer.NONE);
        Check.due("drop(2, nothing)", x.drop(2, 3, 1), SettingsDrawer.NULL_POINTER);
        Check.due("refusals(0)", x.refusals(0), 1);
        Check.dueText("the slot after errors", Check.read(x, 1), "stays");
        Check.due("drop(3, b)", x.drop(3, 0, 1), 1);
        Check.dueText("the value that it had", Check.read(x, 1), "b3");
        Check.due("has(3, b)", x.has(3, 0), 0);
        Check.due("drop(3, b) again", x.drop(3, 0, 1), SettingsDrawer.NONE);
        Check.due("layerOf(3, b)", x.layerOf(3, 0), 1);
        Check.due("drop(0, b) into the key's slot", x.drop(0, 0, 0), 1);
        Check.dueText("the key's slot", Check.read(x, 0), "b0");
        Check.put(x, 0, "a");
        Check.due("the other entry stays", x.has(0, 0), 1);
        Check.due("drop of the last entry", x.drop(0, 0, 1), 0);
        Check.due("size(0)", x.size(0), 0);
        SettingsDrawer y = Check.loaded("a=1\nb=2\nc=3\nd=4");
        Check.put(y, 0, "b");
        y.drop(0, 0, 0);
        Check.dueText("entries after drop", Check.entries(y), "a>1|c>3|d>4|");
    }

    private static void emptyAndSize() {
        SettingsDrawer x = threeLayers();
        Check.due("empty(-1)", x.empty(-1), SettingsDrawer.BAD);
        Check.due("empty(4)", x.empty(4), SettingsDrawer.BAD);
        Check.due("size(-1)", x.size(-1), SettingsDrawer.BAD);
        Check.due("size(4)", x.size(4), SettingsDrawer.BAD);
        int[] want = {2, 2, 0, 2};
        for (int layer = 0; layer < 4; layer++) {
            Check.due("size(" + layer + ")", x.size(layer), want[layer]);
        }
        Check.due("empty(1)", x.empty(1), 2);
        Check.due("empty(1) again", x.empty(1), 0);
        Check.due("empty(2)", x.empty(2), 0);
        Check.due("size(0)", x.size(0), 2);
        Check.due("size(1)", x.size(1), 0);
        Check.put(x, 0, "c");
        Check.due("layerOf(3, c)", x.layerOf(3, 0), SettingsDrawer.NONE);
        Check.due("digest(1)", x.digest(1), 7);
    }

    private static void names() {
        SettingsDrawer x = threeLayers();
        Check.due("names(-1)", x.names(-1), SettingsDrawer.BAD);
        Check.due("names(4)", x.names(4), SettingsDrawer.BAD);
        int[] want = {2, 3, 3, 4};
        for (int layer = 0; layer < 4; layer++) {
            Check.due("names(" + layer + ")", x.names(layer), want[layer]);
        }
        x.empty(0);
        Check.due("names(0) of no entries", x.names(0), 0);
        Check.due("names(2) without layer 0", x.names(2), 2);
    }

    private static void name() {
        SettingsDrawer x = threeLayers();
        Check.entry(x, 2, "", "empty key");
        Check.entry(x, 2, "bb", "2");
        Check.due("name(-1, 0, 0)", x.name(-1, 0, 0), SettingsDrawer.BAD);
        Check.due("name(4, -1, 0)", x.name(4, -1, 0), SettingsDrawer.BAD);
        Check.due("name(0, -1, 6)", x.name(0, -1, 6), SettingsDrawer.BAD);
        Check.put(x, 0, "stays");
        Check.due("name(0, -1, 0)", x.name(0, -1, 0), SettingsDrawer.NONE);
        Check.due("name(0, 2, 0)", x.name(0, 2, 0), SettingsDrawer.NONE);
        Check.due("name(0, max, 0)", x.name(0, Integer.MAX_VALUE, 0), SettingsDrawer.NONE);
        Check.due("name(0, min, 0)", x.name(0, Integer.MIN_VALUE, 0), SettingsDrawer.NONE);
        Check.dueText("the slot after NONE", Check.read(x, 0), "stays");
        String[][] want = {{"a", "b"}, {"a", "b", "c"}, {"", "a", "b", "bb", "c"}, {"", "a", "b", "bb", "c", "d"}};
        for (int layer = 0; layer < 4; layer++) {
            for (int place = 0; place < want[layer].length; place++) {
                String call = "name(" + layer + ", " + place + ", 0)";
                Check.due(call, x.name(layer, place, 0), want[layer][place].length());
                Check.dueText(call, Check.read(x, 0), want[layer][place]);
            }
            Check.due("one name too far", x.name(layer, want[layer].length, 0), SettingsDrawer.NONE);
        }
    }

    /** The most names that can be seen: 160, of four full layers. */
    private static void manyNames() {
        SettingsDrawer x = new SettingsDrawer();
        for (int i = 0; i < 160; i++) {
            x.erase(0);
            x.append(0, 160 - i);
            x.set(i % 4, 0, 0, 1);
        }
        int[] want = {40, 80, 120, 160};
        for (int layer = 0; layer < 4; layer++) {
            Check.due("names(" + layer + ") of full layers", x.names(layer), want[layer]);
        }
        Check.due("name(3, 159, 0)", x.name(3, 159, 0), 1);
        Check.due("the highest name", x.characterAt(0, 0), 160);
        Check.due("name(3, 160, 0)", x.name(3, 160, 0), SettingsDrawer.NONE);
        Check.due("name(3, 0, 0)", x.name(3, 0, 0), 1);
        Check.due("the lowest name", x.characterAt(0, 0), 1);
        Check.due("keep(0) of 160 entries", x.keep(0), 160);
        x.empty(1);
        Check.due("restore(0) of 160 entries", x.restore(0), 160);
    }

    private static void keyFrom() {
        SettingsDrawer x = Check.loaded("b=1\nbb=2\nd=3");
        Check.put(x, 0, "b");
        Check.due("keyFrom(-1, 0, 1)", x.keyFrom(-1, 0, 1), SettingsDrawer.BAD);
        Check.due("keyFrom(4, 0, 1)", x.keyFrom(4, 0, 1), SettingsDrawer.BAD);
        Check.due("keyFrom(0, 6, 1)", x.keyFrom(0, 6, 1), SettingsDrawer.BAD);
        Check.due("keyFrom(0, 3, 6)", x.keyFrom(0, 3, 6), SettingsDrawer.BAD);
        Check.due("keyFrom(0, nothing)", x.keyFrom(0, 3, 1), SettingsDrawer.NOTHING);
        Check.due("keyFrom(1, nothing)", x.keyFrom(1, 3, 1), SettingsDrawer.NOTHING);
        Check.due("refusals(0)", x.refusals(0), 0);
        String[][] want = {{"", "b"}, {"a", "b"}, {"b", "b"}, {"b!", "bb"}, {"bb", "bb"}, {"bba", "d"}, {"c", "d"}};
        for (String[] pair : want) {
            Check.put(x, 0, pair[0]);
            Check.due("keyFrom(0, " + pair[0] + ")", x.keyFrom(0, 0, 1), pair[1].length());
            Check.dueText("keyFrom(0, " + pair[0] + ")", Check.read(x, 1), pair[1]);
        }
        Check.put(x, 0, "d!");
        Check.due("keyFrom(0, d!)", x.keyFrom(0, 0, 1), SettingsDrawer.NONE);
        Check.dueText("the slot after NONE", Check.read(x, 1), "d");
        Check.put(x, 0, "a");
        Check.due("keyFrom(3, a): the layer itself", x.keyFrom(3, 0, 1), SettingsDrawer.NONE);
        Check.due("keyFrom into the text's slot", x.keyFrom(0, 0, 0), 1);
        Check.dueText("the text's slot", Check.read(x, 0), "b");
    }

    /** Keys are ordered as String.compareTo() orders them. */
    private static void order() {
        SettingsDrawer x = new SettingsDrawer();
        String[] sorted = {"", "\u0000", "\u0000a", " ", "A", "Z", "a", "a\u0000", "aa", "ab", "b", "\u007f", "\u0080", "\u00ff"};
        for (int i = sorted.length - 1; i >= 0; i--) {
            Check.entry(x, i % 3, sorted[i], "");
        }
        Check.due("names(3)", x.names(3), sorted.length);
        for (int i = 0; i < sorted.length; i++) {
            x.name(3, i, 0);
            Check.dueText("name " + i, Check.read(x, 0), sorted[i]);
        }
    }

    private static void alike() {
        SettingsDrawer x = new SettingsDrawer();
        Check.due("alike(-1, 0)", x.alike(-1, 0), SettingsDrawer.BAD);
        Check.due("alike(0, 4)", x.alike(0, 4), SettingsDrawer.BAD);
        Check.due("alike of no entries", x.alike(0, 3), 1);
        Check.due("alike(2, 2)", x.alike(2, 2), 1);
        Check.entry(x, 0, "a", "1");
        Check.due("alike of one and none", x.alike(0, 3), 0);
        Check.due("alike of none and one", x.alike(3, 0), 0);
        Check.entry(x, 3, "a", "2");
        Check.due("alike of other values", x.alike(0, 3), 0);
        Check.entry(x, 3, "a", "1");
        Check.due("alike of one entry", x.alike(0, 3), 1);
        Check.entry(x, 0, "b", "1");
        Check.entry(x, 3, "c", "1");
        Check.due("alike of other keys", x.alike(0, 3), 0);
        Check.entry(x, 0, "c", "1");
        Check.entry(x, 3, "b", "1");
        Check.due("alike of entries put in another order", x.alike(0, 3), 1);
    }

    private static int digestOf(String... keysAndValues) {
        int digest = 7;
        for (int i = 0; i < keysAndValues.length; i++) {
            for (char c : keysAndValues[i].toCharArray()) {
                digest = 31 * digest + c;
            }
            digest = 31 * digest + 256 + i % 2;
        }
        return digest;
    }

    private static void digest() {
        SettingsDrawer x = new SettingsDrawer();
        Check.due("digest(-1)", x.digest(-1), 0);
        Check.due("digest(4)", x.digest(4), 0);
        Check.due("digest(0) of no entries", x.digest(0), 7);
        Check.entry(x, 0, "", "");
        Check.due("digest(0) of empty texts", x.digest(0), (7 * 31 + 256) * 31 + 257);
        Check.entry(x, 0, "key", "v\u00ff");
        Check.entry(x, 0, "b", "a long value, so that it overflows");
        Check.due("digest(0)", x.digest(0), digestOf("", "", "b", "a long value, so that it overflows", "key", "v\u00ff"));
        Check.due("digest(1): the layer itself", x.digest(1), 7);
    }
}
