/** Promises 45 to 47: images and refusals. */
public final class ImageTests {
    public static void main(String[] args) {
        keepAndRestore();
        imagesStandApart();
        refusals();
        Check.finish("ImageTests");
    }

    private static void keepAndRestore() {
        SettingsDrawer x = Check.loaded("a=1\nb=2");
        x.load(3);
        for (int image : new int[] {-1, 2}) {
            Check.due("keep(" + image + ")", x.keep(image), SettingsDrawer.BAD);
            Check.due("restore(" + image + ")", x.restore(image), SettingsDrawer.BAD);
        }
        Check.due("restore(0)", x.restore(0), SettingsDrawer.NOT_MADE);
        Check.due("size(0) after NOT_MADE", x.size(0), 2);
        Check.due("keep(0)", x.keep(0), 4);
        Check.due("restore(1)", x.restore(1), SettingsDrawer.NOT_MADE);
        int digest = x.digest(0);
        Check.put(x, 0, "a");
        Check.put(x, 1, "c");
        x.set(0, 0, 1, 2);
        x.set(1, 1, 1, 2);
        x.drop(3, 0, 2);
        x.wipe();
        Check.due("restore(0)", x.restore(0), 4);
        int[] want = {2, 0, 0, 2};
        for (int layer = 0; layer < 4; layer++) {
            Check.due("size(" + layer + ") after restore", x.size(layer), want[layer]);
        }
        Check.due("digest(0) after restore", x.digest(0), digest);
        Check.due("alike(0, 3) after restore", x.alike(0, 3), 1);
        Check.due("the tape is not kept", x.tapeLength(), 0);
        Check.dueText("slots are not kept", Check.read(x, 1), "c");
        x.empty(0);
        x.set(3, 1, 1, 2);
        Check.due("restore(0) again: the image stays", x.restore(0), 4);
        Check.due("digest(0) after restore", x.digest(0), digest);
        Check.due("alike(0, 3) after restore", x.alike(0, 3), 1);
    }

    private static void imagesStandApart() {
        SettingsDrawer x = new SettingsDrawer();
        Check.due("keep(1) of no entries", x.keep(1), 0);
        Check.type(x, "a=1\nb=2\nc=3");
        x.load(0);
        x.load(1);
        Check.due("keep(0)", x.keep(0), 6);
        Check.due("restore(1) of no entries", x.restore(1), 0);
        Check.due("names(3)", x.names(3), 0);
        Check.due("restore(0)", x.restore(0), 6);
        x.empty(1);
        Check.due("keep(0) in place of what it held", x.keep(0), 3);
        x.empty(0);
        Check.due("restore(0)", x.restore(0), 3);
        Check.due("size(1)", x.size(1), 0);
    }

    private static void refusals() {
        SettingsDrawer x = new SettingsDrawer();
        for (int kind : new int[] {-1, 2, Integer.MIN_VALUE, Integer.MAX_VALUE}) {
            Check.due("refusals(" + kind + ")", x.refusals(kind), SettingsDrawer.BAD);
        }
        Check.put(x, 0, "a");
        int[] answers = {
            x.get(0, 5, 0), x.getOr(0, 5, 0, 0), x.has(0, 5), x.layerOf(0, 5), x.set(0, 5, 0, 0), x.drop(0, 5, 0),
            x.tokenize(0, 5), x.tokenizeBy(0, 5, 0), x.tokenizeAll(0, 5, 0), x.tokenizeValue(0, 0, 5, 0),
            x.join(0, 5), x.joinWithin(0, 5, 0, 0)};
        for (int i = 0; i < answers.length; i++) {
            Check.due("answer " + i, answers[i], SettingsDrawer.NULL_POINTER);
        }
        Check.due("refusals(0)", x.refusals(0), answers.length);
        x.join(0, 0);
        Check.due("ifEmpty(0, nothing)", x.ifEmpty(0, 5), SettingsDrawer.NULL_POINTER);
        Check.due("setJoined(0, nothing, 0)", x.setJoined(0, 5, 0), SettingsDrawer.NULL_POINTER);
        Check.due("refusals(0)", x.refusals(0), answers.length + 2);
        x.add(0, 5);
        x.keyFrom(0, 5, 0);
        x.copy(5, 4);
        x.nextBy(0, 5, 0);
        Check.due("other answers do not count", x.refusals(0), answers.length + 2);
        Check.due("refusals(1)", x.refusals(1), 0);
        x.tokenizeBy(0, 0, 0);
        Check.due("next(0, 1)", x.next(0, 1), SettingsDrawer.NO_SUCH_ELEMENT);
        Check.due("refusals(1)", x.refusals(1), 1);
        x.tokenizeBy(1, 0, 0);
        Check.due("nextBy(1, 0, 1)", x.nextBy(1, 0, 1), SettingsDrawer.NO_SUCH_ELEMENT);
        Check.due("refusals(1)", x.refusals(1), 2);
        Check.due("refusals(0)", x.refusals(0), answers.length + 2);
        x.keep(0);
        x.restore(0);
        Check.due("restore changes no count", x.refusals(0), answers.length + 2);
    }
}
