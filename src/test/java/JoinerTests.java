/** Promises 37 to 44: the joiners. */
public final class JoinerTests {
    public static void main(String[] args) {
        join();
        joinWithin();
        add();
        addLimit();
        ifEmpty();
        merge();
        mergeLimit();
        joined();
        setJoined();
        cutAgain();
        Check.finish("JoinerTests");
    }

    private static String result(SettingsDrawer x, int joiner) {
        Check.due("joined and joinedLength of " + joiner, x.joined(joiner, 5), x.joinedLength(joiner));
        return Check.read(x, 5);
    }

    /** Slots 0 to 2 hold a delimiter, a prefix and a suffix; 3 holds a text, 4 and 5 nothing. */
    private static SettingsDrawer brackets() {
        SettingsDrawer x = new SettingsDrawer();
        Check.put(x, 0, ", ");
        Check.put(x, 1, "[");
        Check.put(x, 2, "))");
        Check.put(x, 3, "abc");
        return x;
    }

    private static void join() {
        SettingsDrawer x = brackets();
        Check.due("join(-1, 0)", x.join(-1, 0), SettingsDrawer.BAD);
        Check.due("join(3, 0)", x.join(3, 0), SettingsDrawer.BAD);
        Check.due("join(0, 6)", x.join(0, 6), SettingsDrawer.BAD);
        Check.due("join(3, nothing)", x.join(3, 4), SettingsDrawer.BAD);
        for (int joiner = 0; joiner < 3; joiner++) {
            Check.due("join(" + joiner + ", 0)", x.join(joiner, 0), 0);
            Check.dueText("no elements", result(x, joiner), "");
        }
        x.add(1, 3);
        x.forget(4);
        Check.due("join(1, nothing)", x.join(1, 4), SettingsDrawer.NULL_POINTER);
        Check.due("refusals(0)", x.refusals(0), 1);
        Check.dueText("the former joiner stays", result(x, 1), "abc");
        Check.due("join in place of the former", x.join(1, 0), 0);
        Check.dueText("the new one has no elements", result(x, 1), "");
        Check.putMany(x, 0, '-', 300);
        Check.due("join with the longest delimiter", x.join(1, 0), 0);
        Check.due("its first element", x.add(1, 3), 3);
        Check.due("its second element", x.add(1, 3), SettingsDrawer.FULL);
    }

    private static void joinWithin() {
        SettingsDrawer x = brackets();
        Check.due("joinWithin(-1, 0, 1, 2)", x.joinWithin(-1, 0, 1, 2), SettingsDrawer.BAD);
        Check.due("joinWithin(3, 0, 1, 2)", x.joinWithin(3, 0, 1, 2), SettingsDrawer.BAD);
        Check.due("joinWithin(0, 6, 1, 2)", x.joinWithin(0, 6, 1, 2), SettingsDrawer.BAD);
        Check.due("joinWithin(0, 0, 6, 2)", x.joinWithin(0, 0, 6, 2), SettingsDrawer.BAD);
        Check.due("joinWithin(0, 4, 1, 6)", x.joinWithin(0, 4, 1, 6), SettingsDrawer.BAD);
        Check.due("joinWithin(0, 0, 1, 2)", x.joinWithin(0, 0, 1, 2), 3);
        Check.dueText("prefix and suffix", result(x, 0), "[))");
        x.forget(5);
        Check.due("joinWithin(0, nothing, 1, 2)", x.joinWithin(0, 4, 1, 2), SettingsDrawer.NULL_POINTER);
        Check.due("joinWithin(0, 0, nothing, 2)", x.joinWithin(0, 0, 4, 2), SettingsDrawer.NULL_POINTER);
        Check.due("joinWithin(0, 0, 1, nothing)", x.joinWithin(0, 0, 1, 4), SettingsDrawer.NULL_POINTER);
        Check.due("refusals(0)", x.refusals(0), 3);
        Check.due("the former joiner stays", x.joinedLength(0), 3);
        Check.putMany(x, 1, 'p', 200);
        Check.putMany(x, 2, 's', 100);
        Check.due("prefix and suffix of 300", x.joinWithin(0, 1, 1, 2), 300);
        Check.due("the empty element fits", add(x, 0, ""), 300);
        x.append(2, 's');
        Check.due("prefix and suffix of 301", x.joinWithin(1, 0, 1, 2), SettingsDrawer.FULL);
        Check.due("no joiner was made", x.joinedLength(1), SettingsDrawer.NOT_MADE);
        Check.due("NULL_POINTER comes before FULL", x.joinWithin(1, 5, 1, 2), SettingsDrawer.NULL_POINTER);
        Check.due("FULL leaves the former joiner", x.joinWithin(0, 0, 1, 2), SettingsDrawer.FULL);
        Check.due("the former joiner", x.joinedLength(0), 300);
    }

    /** Adds a text by slot 4, which holds nothing then. */
    private static int add(SettingsDrawer x, int joiner, String text) {
        Check.put(x, 4, text);
        int length = x.add(joiner, 4);
        x.forget(4);
        return length;
    }

    private static void add() {
        SettingsDrawer x = brackets();
        Check.due("add(-1, 3)", x.add(-1, 3), SettingsDrawer.BAD);
        Check.due("add(3, 3)", x.add(3, 3), SettingsDrawer.BAD);
        Check.due("add(0, 6)", x.add(0, 6), SettingsDrawer.BAD);
        Check.due("add(0, 3)", x.add(0, 3), SettingsDrawer.NOT_MADE);
        Check.due("add(0, nothing)", x.add(0, 4), SettingsDrawer.NOT_MADE);
        x.joinWithin(0, 0, 1, 2);
        Check.due("add of an empty element", add(x, 0, ""), 3);
        Check.due("add of an empty element again", add(x, 0, ""), 5);
        Check.due("add of abc", x.add(0, 3), 10);
        Check.due("add of nothing", x.add(0, 4), 16);
        Check.due("refusals(0)", x.refusals(0), 0);
        Check.dueText("the result", result(x, 0), "[, , abc, null))");
        x.erase(3);
        x.erase(0);
        Check.dueText("the texts are those of the calls", result(x, 0), "[, , abc, null))");
    }

    private static void addLimit() {
        SettingsDrawer x = brackets();
        x.joinWithin(0, 0, 1, 2);
        Check.putMany(x, 3, 'x', 290);
        Check.due("add of 290", x.add(0, 3), 293);
        Check.due("add of 6 characters", add(x, 0, "123456"), SettingsDrawer.FULL);
        Check.due("joinedLength(0) after FULL", x.joinedLength(0), 293);
        Check.due("add of 5 characters", add(x, 0, "12345"), 300);
        Check.due("add of an empty element", add(x, 0, ""), SettingsDrawer.FULL);
        Check.due("joinedLength(0) after FULL", x.joinedLength(0), 300);
        x.join(0, 0);
        Check.putMany(x, 3, 'x', 295);
        x.add(0, 3);
        Check.due("the letters null do not fit", x.add(0, 4), SettingsDrawer.FULL);
        x.joinWithin(0, 0, 1, 2);
        Check.putMany(x, 3, 'x', 298);
        x.ifEmpty(0, 3);
        Check.due("add is measured without the text for no elements", x.add(0, 3), SettingsDrawer.FULL);
        Check.due("joinedLength(0) after FULL", x.joinedLength(0), 298);
        Check.due("add of abc in its place", add(x, 0, "abc"), 6);
    }

    private static void ifEmpty() {
        SettingsDrawer x = brackets();
        Check.due("ifEmpty(-1, 3)", x.ifEmpty(-1, 3), SettingsDrawer.BAD);
        Check.due("ifEmpty(3, 3)", x.ifEmpty(3, 3), SettingsDrawer.BAD);
        Check.due("ifEmpty(0, 6)", x.ifEmpty(0, 6), SettingsDrawer.BAD);
        Check.due("ifEmpty(0, nothing)", x.ifEmpty(0, 4), SettingsDrawer.NOT_MADE);
        Check.due("refusals(0) after NOT_MADE", x.refusals(0), 0);
        x.joinWithin(0, 0, 1, 2);
        Check.due("ifEmpty(0, abc)", x.ifEmpty(0, 3), 3);
        Check.dueText("the text alone", result(x, 0), "abc");
        x.forget(5);
        Check.due("ifEmpty(0, nothing) of a made joiner", x.ifEmpty(0, 5), SettingsDrawer.NULL_POINTER);
        Check.due("refusals(0)", x.refusals(0), 1);
        Check.dueText("the text stays", result(x, 0), "abc");
        Check.put(x, 3, "");
        Check.due("ifEmpty with the empty text", x.ifEmpty(0, 3), 0);
        Check.dueText("the empty text alone", result(x, 0), "");
        x.add(0, 3);
        Check.dueText("an empty element is an element", result(x, 0), "[))");
        Check.put(x, 3, "late text");
        Check.due("ifEmpty with elements", x.ifEmpty(0, 3), 3);
        Check.dueText("elements go before it", result(x, 0), "[))");
        x.joinWithin(0, 0, 1, 2);
        Check.dueText("a new joiner has no such text", result(x, 0), "[))");
    }

    private static void merge() {
        SettingsDrawer x = brackets();
        Check.due("merge(-1, 0)", x.merge(-1, 0), SettingsDrawer.BAD);
        Check.due("merge(0, 3)", x.merge(0, 3), SettingsDrawer.BAD);
        Check.due("merge(3, 0)", x.merge(3, 0), SettingsDrawer.BAD);
        Check.due("merge(1, 1), not made", x.merge(1, 1), SettingsDrawer.BAD);
        Check.due("merge(0, 1), neither made", x.merge(0, 1), SettingsDrawer.NOT_MADE);
        x.joinWithin(0, 0, 1, 2);
        Check.due("merge(0, 1), one made", x.merge(0, 1), SettingsDrawer.NOT_MADE);
        Check.due("merge(1, 0), one made", x.merge(1, 0), SettingsDrawer.NOT_MADE);
        Check.put(x, 4, "+");
        x.joinWithin(1, 4, 3, 3);
        x.ifEmpty(1, 3);
        Check.due("merge of no elements", x.merge(0, 1), 3);
        Check.dueText("nothing is added", result(x, 0), "[))");
        x.ifEmpty(0, 3);
        Check.due("merge of no elements into a text alone", x.merge(0, 1), 3);
        Check.dueText("the text alone", result(x, 0), "abc");
        x.add(1, 2);
        x.add(1, 1);
        Check.due("merge of two elements", x.merge(0, 1), 7);
        Check.dueText("one element, with the other's delimiter", result(x, 0), "[))+[))");
        Check.due("merge again", x.merge(0, 1), 13);
        Check.dueText("the own delimiter between", result(x, 0), "[))+[, ))+[))");
        Check.dueText("the other stays", result(x, 1), "abc))+[abc");
        x.join(2, 4);
        add(x, 2, "");
        Check.due("merge of an empty element", x.merge(0, 2), 15);
        Check.dueText("an empty element is added", result(x, 0), "[))+[, ))+[, ))");
        add(x, 1, "z");
        Check.due("the merged stands for itself", x.joinedLength(0), 15);
    }

    private static void mergeLimit() {
        SettingsDrawer x = brackets();
        x.joinWithin(0, 0, 1, 2);
        Check.putMany(x, 3, 'x', 297);
        x.join(1, 0);
        x.add(1, 3);
        Check.due("merge up to 300", x.merge(0, 1), 300);
        Check.due("merge beyond 300", x.merge(0, 1), SettingsDrawer.FULL);
        Check.due("joinedLength(0) after FULL", x.joinedLength(0), 300);
        x.joinWithin(0, 0, 1, 2);
        x.append(3, 'x');
        x.join(1, 0);
        x.add(1, 3);
        Check.due("merge of 298 within brackets", x.merge(0, 1), SettingsDrawer.FULL);
        Check.dueText("nothing was added", result(x, 0), "[))");
    }

    private static void joined() {
        SettingsDrawer x = brackets();
        for (int joiner : new int[] {-1, 3}) {
            Check.due("joined(" + joiner + ", 5)", x.joined(joiner, 5), SettingsDrawer.BAD);
            Check.due("joinedLength(" + joiner + ")", x.joinedLength(joiner), SettingsDrawer.BAD);
        }
        Check.due("joined(0, 6)", x.joined(0, 6), SettingsDrawer.BAD);
        Check.due("joined(0, 3)", x.joined(0, 3), SettingsDrawer.NOT_MADE);
        Check.due("joinedLength(0)", x.joinedLength(0), SettingsDrawer.NOT_MADE);
        Check.dueText("the slot after NOT_MADE", Check.read(x, 3), "abc");
        x.joinWithin(0, 0, 1, 2);
        x.add(0, 3);
        x.add(0, 3);
        Check.due("joinedLength(0)", x.joinedLength(0), 11);
        Check.due("joined(0, 3)", x.joined(0, 3), 11);
        Check.dueText("the result", Check.read(x, 3), "[abc, abc))");
        Check.due("joined changes nothing", x.joinedLength(0), 11);
        Check.due("the result as an element", x.add(0, 3), 24);
    }

    private static void setJoined() {
        SettingsDrawer x = brackets();
        Check.due("setJoined(-1, 3, 0)", x.setJoined(-1, 3, 0), SettingsDrawer.BAD);
        Check.due("setJoined(4, 3, 0)", x.setJoined(4, 3, 0), SettingsDrawer.BAD);
        Check.due("setJoined(0, 6, 0)", x.setJoined(0, 6, 0), SettingsDrawer.BAD);
        Check.due("setJoined(0, 4, 3)", x.setJoined(0, 4, 3), SettingsDrawer.BAD);
        Check.due("setJoined(0, nothing, 0)", x.setJoined(0, 4, 0), SettingsDrawer.NOT_MADE);
        Check.due("refusals(0) after NOT_MADE", x.refusals(0), 0);
        x.joinWithin(0, 0, 1, 2);
        Check.due("setJoined(0, nothing, 0) of a made joiner", x.setJoined(0, 4, 0), SettingsDrawer.NULL_POINTER);
        Check.due("refusals(0)", x.refusals(0), 1);
        Check.due("size(0)", x.size(0), 0);
        Check.due("setJoined(2, abc, 0)", x.setJoined(2, 3, 0), 1);
        x.get(2, 3, 5);
        Check.dueText("the value", Check.read(x, 5), "[))");
        x.add(0, 3);
        Check.due("setJoined(2, abc, 0) again", x.setJoined(2, 3, 0), 1);
        x.get(2, 3, 5);
        Check.dueText("the value", Check.read(x, 5), "[abc))");
        Check.dueText("the key's slot stays", Check.read(x, 3), "abc");
        for (int i = 1; i < 40; i++) {
            x.erase(5);
            x.append(5, i);
            Check.due("setJoined number " + (i + 1), x.setJoined(2, 5, 0), i + 1);
        }
        x.append(5, 0);
        Check.due("setJoined of the forty-first key", x.setJoined(2, 5, 0), SettingsDrawer.FULL);
        Check.due("size(2) after FULL", x.size(2), 40);
        Check.due("NULL_POINTER comes before FULL", x.setJoined(2, 4, 0), SettingsDrawer.NULL_POINTER);
        Check.due("setJoined of a key of the full layer", x.setJoined(2, 3, 0), 40);
    }

    /** What a joiner has joined, a tokenizer with its delimiter gives again. */
    private static void cutAgain() {
        SettingsDrawer x = new SettingsDrawer();
        Check.put(x, 0, ";");
        x.join(0, 0);
        String[] parts = {"a", "b c", ",", "null"};
        for (String part : parts) {
            add(x, 0, part);
        }
        x.joined(0, 1);
        Check.due("tokenizeBy(0, 1, 0)", x.tokenizeBy(0, 1, 0), parts.length);
        for (String part : parts) {
            x.next(0, 2);
            Check.dueText("the part", Check.read(x, 2), part);
        }
    }
}
