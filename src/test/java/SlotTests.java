/** Promises 1 to 8: a new object, and the slots. */
public final class SlotTests {
    public static void main(String[] args) {
        newObject();
        erase();
        forget();
        append();
        length();
        characterAt();
        copy();
        same();
        Check.finish("SlotTests");
    }

    private static void newObject() {
        SettingsDrawer x = new SettingsDrawer();
        for (int slot = 0; slot < 6; slot++) {
            Check.due("new: length(" + slot + ")", x.length(slot), SettingsDrawer.NOTHING);
        }
        Check.due("new: tapeLength()", x.tapeLength(), 0);
        for (int layer = 0; layer < 4; layer++) {
            Check.due("new: size(" + layer + ")", x.size(layer), 0);
            Check.due("new: names(" + layer + ")", x.names(layer), 0);
            Check.due("new: digest(" + layer + ")", x.digest(layer), 7);
        }
        for (int tokenizer = 0; tokenizer < 2; tokenizer++) {
            Check.due("new: more(" + tokenizer + ")", x.more(tokenizer), SettingsDrawer.NOT_MADE);
        }
        for (int joiner = 0; joiner < 3; joiner++) {
            Check.due("new: joinedLength(" + joiner + ")", x.joinedLength(joiner), SettingsDrawer.NOT_MADE);
        }
        for (int image = 0; image < 2; image++) {
            Check.due("new: restore(" + image + ")", x.restore(image), SettingsDrawer.NOT_MADE);
        }
        Check.due("new: refusals(0)", x.refusals(0), 0);
        Check.due("new: refusals(1)", x.refusals(1), 0);
        Check.due("new: brokenAt()", x.brokenAt(), SettingsDrawer.NONE);
        Check.put(x, 0, "a");
        Check.due("a second object stands for itself", new SettingsDrawer().length(0), SettingsDrawer.NOTHING);
    }

    private static void erase() {
        SettingsDrawer x = new SettingsDrawer();
        for (int slot : new int[] {-1, 6, Integer.MIN_VALUE, Integer.MAX_VALUE}) {
            Check.due("erase(" + slot + ")", x.erase(slot), SettingsDrawer.BAD);
        }
        Check.due("erase of nothing", x.erase(5), SettingsDrawer.NOTHING);
        Check.due("length after erase", x.length(5), 0);
        x.append(5, 'a');
        x.append(5, 'b');
        Check.due("erase of two characters", x.erase(5), 2);
        Check.due("erase of the empty text", x.erase(5), 0);
        Check.due("other slots stay", x.length(4), SettingsDrawer.NOTHING);
    }

    private static void forget() {
        SettingsDrawer x = new SettingsDrawer();
        Check.due("forget(-1)", x.forget(-1), SettingsDrawer.BAD);
        Check.due("forget(6)", x.forget(6), SettingsDrawer.BAD);
        Check.due("forget of nothing", x.forget(0), SettingsDrawer.NOTHING);
        Check.put(x, 0, "abc");
        Check.put(x, 1, "d");
        Check.due("forget of three characters", x.forget(0), 3);
        Check.due("length after forget", x.length(0), SettingsDrawer.NOTHING);
        Check.due("other slots stay", x.length(1), 1);
        x.erase(0);
        Check.due("forget of the empty text", x.forget(0), 0);
        Check.due("append after forget", x.append(0, 'a'), SettingsDrawer.NOTHING);
    }

    private static void append() {
        SettingsDrawer x = new SettingsDrawer();
        Check.due("append(-1, 97)", x.append(-1, 97), SettingsDrawer.BAD);
        Check.due("append(6, 97)", x.append(6, 97), SettingsDrawer.BAD);
        Check.due("append(0, -1), nothing held", x.append(0, -1), SettingsDrawer.BAD);
        Check.due("append(0, 256), nothing held", x.append(0, 256), SettingsDrawer.BAD);
        Check.due("append to nothing", x.append(0, 97), SettingsDrawer.NOTHING);
        Check.due("still nothing", x.length(0), SettingsDrawer.NOTHING);
        x.erase(0);
        Check.due("append(0, 0)", x.append(0, 0), 1);
        Check.due("append(0, 255)", x.append(0, 255), 2);
        Check.due("append(0, 256)", x.append(0, 256), SettingsDrawer.BAD);
        Check.dueText("what was appended", Check.read(x, 0), "\u0000\u00ff");
        x.erase(1);
        for (int i = 1; i <= 300; i++) {
            Check.due("append number " + i, x.append(1, 'x'), i);
        }
        Check.due("append number 301", x.append(1, 'x'), SettingsDrawer.FULL);
        Check.due("a wrong character comes before FULL", x.append(1, 300), SettingsDrawer.BAD);
        Check.due("length after FULL", x.length(1), 300);
        Check.due("the last character", x.characterAt(1, 299), 'x');
    }

    private static void length() {
        SettingsDrawer x = new SettingsDrawer();
        Check.due("length(-1)", x.length(-1), SettingsDrawer.BAD);
        Check.due("length(6)", x.length(6), SettingsDrawer.BAD);
        Check.due("length of nothing", x.length(3), SettingsDrawer.NOTHING);
        x.erase(3);
        Check.due("length of the empty text", x.length(3), 0);
        Check.put(x, 3, "abcd");
        Check.due("length of abcd", x.length(3), 4);
        Check.putMany(x, 3, 'a', 300);
        Check.due("length of the longest text", x.length(3), 300);
    }

    private static void characterAt() {
        SettingsDrawer x = new SettingsDrawer();
        Check.due("characterAt(-1, 0)", x.characterAt(-1, 0), SettingsDrawer.BAD);
        Check.due("characterAt(6, 0)", x.characterAt(6, 0), SettingsDrawer.BAD);
        Check.due("characterAt(2, 0) of nothing", x.characterAt(2, 0), SettingsDrawer.NOTHING);
        Check.due("characterAt(2, -1) of nothing", x.characterAt(2, -1), SettingsDrawer.NOTHING);
        x.erase(2);
        Check.due("characterAt(2, 0) of the empty text", x.characterAt(2, 0), SettingsDrawer.NONE);
        Check.put(x, 2, "a\u00e9b");
        Check.due("characterAt(2, 0)", x.characterAt(2, 0), 'a');
        Check.due("characterAt(2, 1)", x.characterAt(2, 1), 0xe9);
        Check.due("characterAt(2, 2)", x.characterAt(2, 2), 'b');
        Check.due("characterAt(2, 3)", x.characterAt(2, 3), SettingsDrawer.NONE);
        Check.due("characterAt(2, -1)", x.characterAt(2, -1), SettingsDrawer.NONE);
        Check.due("characterAt(2, max)", x.characterAt(2, Integer.MAX_VALUE), SettingsDrawer.NONE);
        Check.due("characterAt(2, min)", x.characterAt(2, Integer.MIN_VALUE), SettingsDrawer.NONE);
    }

    private static void copy() {
        SettingsDrawer x = new SettingsDrawer();
        Check.put(x, 0, "ab");
        Check.put(x, 1, "xyz");
        Check.due("copy(-1, 0)", x.copy(-1, 0), SettingsDrawer.BAD);
        Check.due("copy(0, 6)", x.copy(0, 6), SettingsDrawer.BAD);
        Check.due("copy(6, 0)", x.copy(6, 0), SettingsDrawer.BAD);
        Check.due("copy(2, -1) of nothing", x.copy(2, -1), SettingsDrawer.BAD);
        Check.due("copy(0, 1)", x.copy(0, 1), 2);
        Check.dueText("the target", Check.read(x, 1), "ab");
        x.append(1, 'c');
        Check.dueText("the source is another text", Check.read(x, 0), "ab");
        Check.dueText("the target grew", Check.read(x, 1), "abc");
        Check.due("copy(0, 0)", x.copy(0, 0), 2);
        Check.dueText("copy onto itself", Check.read(x, 0), "ab");
        Check.due("copy of nothing", x.copy(3, 0), SettingsDrawer.NOTHING);
        Check.due("the target holds nothing", x.length(0), SettingsDrawer.NOTHING);
        Check.due("copy of nothing onto itself", x.copy(3, 3), SettingsDrawer.NOTHING);
    }

    private static void same() {
        SettingsDrawer x = new SettingsDrawer();
        Check.due("same(-1, 0)", x.same(-1, 0), SettingsDrawer.BAD);
        Check.due("same(0, 6)", x.same(0, 6), SettingsDrawer.BAD);
        Check.due("same of nothing twice", x.same(0, 1), 1);
        x.erase(0);
        Check.due("same of empty and nothing", x.same(0, 1), 0);
        Check.due("same of nothing and empty", x.same(1, 0), 0);
        x.erase(1);
        Check.due("same of empty twice", x.same(0, 1), 1);
        Check.put(x, 0, "ab");
        Check.put(x, 1, "ab");
        Check.due("same of equal texts", x.same(0, 1), 1);
        Check.due("same(0, 0)", x.same(0, 0), 1);
        x.append(1, 'c');
        Check.due("same of a text and a longer one", x.same(0, 1), 0);
        Check.put(x, 1, "aB");
        Check.due("same of texts of one length", x.same(0, 1), 0);
    }
}
