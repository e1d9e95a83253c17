/** Promises 29 to 47, sentence by sentence: the edges that each of them names. ErrorTests has their errors, in a table. */
public final class ListEdgeTests {
    private static final int NOTHING = SettingsDrawer.NOTHING;
    private static final int FULL = SettingsDrawer.FULL;
    private static final int NOT_MADE = SettingsDrawer.NOT_MADE;
    private static final int NULL_POINTER = SettingsDrawer.NULL_POINTER;
    private static final int NO_SUCH_ELEMENT = SettingsDrawer.NO_SUCH_ELEMENT;

    public static void main(String[] args) {
        tokenize();
        tokenizeBy();
        tokenizeAll();
        tokenizeValue();
        moreAndCount();
        next();
        nextBy();
        nextByEdges();
        join();
        joinWithin();
        add();
        addFull();
        ifEmpty();
        merge();
        mergeNothing();
        mergeFull();
        joined();
        setJoined();
        keep();
        restore();
        refusals();
        Check.finish("ListEdgeTests");
    }

    // ---- tokenizers

    private static void tokenize() {
        Check.sentence("its delimiters are space, tab, line feed, carriage return and form feed (12), and it does not return them.");
        for (int character = 0; character < 256; character++) {
            SettingsDrawer x = new SettingsDrawer();
            Check.put(x, 0, "a" + (char) character + "b");
            boolean cuts = character == 32 || character == 9 || character == 10 || character == 13 || character == 12;
            Check.due("tokenize by character " + character, x.tokenize(0, 0), cuts ? 2 : 1);
            Check.due("next(0, 1)", x.next(0, 1), cuts ? 1 : 3);
        }
        Check.sentence("Returns the number of tokens; BAD; NULL_POINTER if text holds nothing (the former tokenizer stays).");
        SettingsDrawer x = new SettingsDrawer();
        x.erase(0);
        Check.due("tokenize of nothing, none made", x.tokenize(0, 5), NULL_POINTER);
        Check.due("count(0)", x.count(0), NOT_MADE);
        Check.due("tokenize of the empty text", x.tokenize(0, 0), 0);
        Check.put(x, 0, " \t\n\r\f");
        Check.due("tokenize of delimiters", x.tokenize(0, 0), 0);
        Check.put(x, 0, " a b ");
        Check.due("tokenize of two tokens", x.tokenize(0, 0), 2);
        x.next(0, 1);
        Check.due("tokenize of nothing", x.tokenize(0, 5), NULL_POINTER);
        Check.due("count(0)", x.count(0), 1);
        Check.due("refusals(0)", x.refusals(0), 2);
        Check.due("tokenize again, in place of the former", x.tokenize(0, 0), 2);
        Check.due("count(0)", x.count(0), 2);
        Check.putMany(x, 0, 'a', 300);
        Check.due("tokenize of 300 characters", x.tokenize(1, 0), 1);
        Check.due("next(1, 1)", x.next(1, 1), 300);
    }

    private static void tokenizeBy() {
        Check.sentence("Returns the number of tokens; BAD; NOTHING if delimiters holds nothing; NULL_POINTER if text holds nothing (the "
            + "former tokenizer stays).");
        SettingsDrawer x = new SettingsDrawer();
        Check.put(x, 0, "a,b,c");
        Check.put(x, 1, ",");
        x.erase(2);
        Check.due("tokenizeBy", x.tokenizeBy(1, 0, 1), 3);
        x.next(1, 3);
        Check.due("tokenizeBy of nothing by nothing", x.tokenizeBy(1, 5, 5), NOTHING);
        Check.due("tokenizeBy by nothing", x.tokenizeBy(1, 0, 5), NOTHING);
        Check.due("refusals(0)", x.refusals(0), 0);
        Check.due("tokenizeBy of nothing", x.tokenizeBy(1, 5, 1), NULL_POINTER);
        Check.due("tokenizeBy of nothing by the empty text", x.tokenizeBy(1, 5, 2), NULL_POINTER);
        Check.due("refusals(0)", x.refusals(0), 2);
        Check.due("count(1)", x.count(1), 2);
        Check.due("tokenizeBy by the empty text", x.tokenizeBy(1, 0, 2), 1);
        Check.due("tokenizeBy of the empty text", x.tokenizeBy(1, 2, 1), 0);
        Check.due("tokenizeBy of a text by itself", x.tokenizeBy(1, 0, 0), 0);
        Check.due("tokenizeBy of the empty text by itself", x.tokenizeBy(1, 2, 2), 0);
        Check.putMany(x, 0, ',', 150);
        Check.due("tokenizeBy of 150 delimiters", x.tokenizeBy(0, 0, 1), 0);
        Check.put(x, 3, "a,");
        Check.put(x, 4, "");
        for (int i = 0; i < 5; i++) {
            x.joinWithin(0, 4, 3, 3);
            x.joined(0, 3);
        }
        Check.due("tokenizeBy of 32 tokens", x.tokenizeBy(0, 3, 1), 32);
    }

    private static void tokenizeAll() {
        Check.sentence("Makes a tokenizer by StringTokenizer(String, String, boolean), which returns delimiters,");
        SettingsDrawer x = new SettingsDrawer();
        Check.put(x, 0, ",a,");
        Check.put(x, 1, ",");
        x.erase(2);
        Check.due("tokenizeAll", x.tokenizeAll(0, 0, 1), 3);
        x.next(0, 3);
        Check.due("tokenizeAll of nothing by nothing", x.tokenizeAll(0, 5, 5), NOTHING);
        Check.due("tokenizeAll by nothing", x.tokenizeAll(0, 0, 5), NOTHING);
        Check.due("tokenizeAll of nothing", x.tokenizeAll(0, 5, 1), NULL_POINTER);
        Check.due("refusals(0)", x.refusals(0), 1);
        Check.due("count(0)", x.count(0), 2);
        Check.due("tokenizeAll by the empty text", x.tokenizeAll(0, 0, 2), 1);
        Check.due("tokenizeAll of the empty text", x.tokenizeAll(0, 2, 1), 0);
        Check.due("more(0)", x.more(0), 0);
        Check.due("tokenizeAll of a text by itself", x.tokenizeAll(0, 0, 0), 3);
        Check.putMany(x, 0, ',', 300);
        Check.due("tokenizeAll of 300 delimiters", x.tokenizeAll(1, 0, 1), 300);
        Check.due("tokenizeAll by 300 delimiters", x.tokenizeAll(1, 0, 0), 300);
        Check.due("next(1, 3)", x.next(1, 3), 1);
        Check.due("count(1)", x.count(1), 299);
    }

    private static void tokenizeValue() {
        Check.sentence("Returns the number of tokens; BAD; NOTHING if delimiters holds nothing; NULL_POINTER if key holds nothing (by "
            + "TreeMap.get()); NONE if there is no entry.");
        SettingsDrawer x = Check.loaded("k=a,b\ne=");
        Check.put(x, 0, "k");
        Check.put(x, 1, ",");
        Check.put(x, 2, "absent");
        Check.due("tokenizeValue, none made, no entry", x.tokenizeValue(1, 0, 2, 1), SettingsDrawer.NONE);
        Check.due("count(1)", x.count(1), NOT_MADE);
        Check.due("tokenizeValue", x.tokenizeValue(1, 3, 0, 1), 2);
        x.next(1, 3);
        Check.due("tokenizeValue by nothing", x.tokenizeValue(1, 3, 0, 5), NOTHING);
        Check.due("tokenizeValue of nothing by nothing", x.tokenizeValue(1, 3, 5, 5), NOTHING);
        Check.due("tokenizeValue by nothing, no entry", x.tokenizeValue(1, 3, 2, 5), NOTHING);
        Check.due("refusals(0)", x.refusals(0), 0);
        Check.due("tokenizeValue of nothing", x.tokenizeValue(1, 3, 5, 1), NULL_POINTER);
        Check.due("refusals(0)", x.refusals(0), 1);
        Check.due("tokenizeValue, no entry", x.tokenizeValue(1, 3, 2, 1), SettingsDrawer.NONE);
        Check.due("the former tokenizer stays", x.count(1), 1);
        Check.put(x, 2, "e");
        Check.due("tokenizeValue of an empty value", x.tokenizeValue(0, 3, 2, 1), 0);
        Check.entry(x, 2, "k", "a,b,c");
        Check.due("tokenizeValue from layer 1", x.tokenizeValue(0, 1, 0, 1), 2);
        Check.due("tokenizeValue from layer 2", x.tokenizeValue(0, 2, 0, 1), 3);
        x.empty(2);
        Check.due("a removed entry is cut still", x.count(0), 3);
    }

    private static void moreAndCount() {
        Check.sentence("Returns the number of tokens from the position on, by the present delimiters; BAD; NOT_MADE.");
        SettingsDrawer x = new SettingsDrawer();
        Check.put(x, 0, "a,b;c,d");
        Check.put(x, 1, ",");
        Check.put(x, 2, ";");
        Check.due("tokenizeBy", x.tokenizeBy(0, 0, 1), 3);
        x.next(0, 3);
        Check.due("count(0) by ,", x.count(0), 2);
        x.nextBy(0, 2, 3);
        Check.due("count(0) by ;", x.count(0), 1);
        Check.sentence("Returns 1 if there is a next token, otherwise 0; BAD; NOT_MADE.");
        Check.due("more(0)", x.more(0), 1);
        x.next(0, 3);
        Check.due("more(0) behind the last", x.more(0), 0);
        Check.due("count(0) behind the last", x.count(0), 0);
        Check.due("more(0) still", x.more(0), 0);
        Check.due("more(1)", x.more(1), NOT_MADE);
        Check.due("count(1)", x.count(1), NOT_MADE);
    }

    private static void next() {
        Check.sentence("Returns the length of the token; BAD; NOT_MADE; NO_SUCH_ELEMENT if there is no next token (the tokenizer is "
            + "dropped then).");
        SettingsDrawer x = new SettingsDrawer();
        Check.put(x, 0, "a,,bc");
        Check.put(x, 1, ",");
        x.tokenizeBy(0, 0, 1);
        x.tokenizeBy(1, 0, 1);
        Check.due("next(0, 2)", x.next(0, 2), 1);
        Check.due("next(0, 2)", x.next(0, 2), 2);
        Check.dueText("the last token", Check.read(x, 2), "bc");
        Check.due("count(0) of a tokenizer without a next token", x.count(0), 0);
        Check.due("next(0, 2)", x.next(0, 2), NO_SUCH_ELEMENT);
        Check.dueText("the slot stays", Check.read(x, 2), "bc");
        Check.due("next(0, 2)", x.next(0, 2), NOT_MADE);
        Check.due("refusals(1)", x.refusals(1), 1);
        Check.due("count(1): the other tokenizer stays", x.count(1), 2);
        Check.due("next(1, 6)", x.next(1, 6), SettingsDrawer.BAD);
        Check.due("count(1)", x.count(1), 2);
    }

    private static void nextBy() {
        Check.sentence("Changes the delimiters of a tokenizer, for good, by StringTokenizer.nextToken(String), and puts the next token "
            + "by them into a slot.");
        SettingsDrawer x = new SettingsDrawer();
        Check.put(x, 0, "a,b;c;d");
        Check.put(x, 1, ",");
        Check.put(x, 2, ";");
        x.tokenizeBy(0, 0, 1);
        Check.due("nextBy(0, 2, 3)", x.nextBy(0, 2, 3), 3);
        Check.dueText("the token", Check.read(x, 3), "a,b");
        Check.due("next(0, 3)", x.next(0, 3), 1);
        Check.dueText("the token by the same delimiters", Check.read(x, 3), "c");
        Check.sentence("NOTHING if delimiters holds nothing; NO_SUCH_ELEMENT if there is no next token by these delimiters (the tokenizer "
            + "is dropped then).");
        Check.due("nextBy(0, nothing, 3)", x.nextBy(0, 5, 3), NOTHING);
        Check.due("count(0)", x.count(0), 1);
        Check.put(x, 2, ";d");
        Check.due("nextBy(0, ;d, 3)", x.nextBy(0, 2, 3), NO_SUCH_ELEMENT);
        Check.dueText("the slot stays", Check.read(x, 3), "c");
        Check.due("nextBy(0, ;d, 3) again", x.nextBy(0, 2, 3), NOT_MADE);
        Check.due("nextBy(0, nothing, 3), not made", x.nextBy(0, 5, 3), NOT_MADE);
        Check.due("refusals(1)", x.refusals(1), 1);
    }

    private static void nextByEdges() {
        Check.sentence("Returns the length of the token; BAD; NOT_MADE; NOTHING if delimiters holds nothing;");
        SettingsDrawer x = new SettingsDrawer();
        Check.put(x, 0, "a,b");
        Check.put(x, 1, ",");
        x.erase(2);
        x.tokenizeBy(0, 0, 1);
        x.next(0, 3);
        Check.due("nextBy by the empty text", x.nextBy(0, 2, 3), 2);
        Check.dueText("the delimiter belongs to the token", Check.read(x, 3), ",b");
        Check.due("nextBy(0, nothing, 3) at the end", x.nextBy(0, 5, 3), NOTHING);
        Check.due("count(0): the tokenizer stays", x.count(0), 0);
        Check.due("nextBy at the end", x.nextBy(0, 1, 3), NO_SUCH_ELEMENT);
        x.tokenizeAll(1, 0, 2);
        Check.due("nextBy of returned delimiters", x.nextBy(1, 1, 3), 1);
        Check.due("nextBy of returned delimiters", x.nextBy(1, 1, 3), 1);
        Check.dueText("the delimiter", Check.read(x, 3), ",");
        Check.put(x, 1, "b");
        Check.due("nextBy of a returned delimiter at the end", x.nextBy(1, 1, 3), 1);
        Check.dueText("the delimiter", Check.read(x, 3), "b");
        Check.due("nextBy behind the end", x.nextBy(1, 1, 3), NO_SUCH_ELEMENT);
        Check.due("refusals(1)", x.refusals(1), 2);
        Check.put(x, 0, ",,,");
        Check.put(x, 1, ",");
        x.tokenizeBy(0, 0, 1);
        Check.due("more(0) of delimiters", x.more(0), 0);
        Check.due("nextBy by the empty text", x.nextBy(0, 2, 3), 3);
    }

    // ---- joiners

    private static String result(SettingsDrawer x, int joiner) {
        x.joined(joiner, 5);
        String text = Check.read(x, 5);
        x.forget(5);
        return text;
    }

    /** Slot 0 is empty; slots 1 to 3 hold a delimiter, a prefix and a suffix; slots 4 and 5 hold nothing. */
    private static SettingsDrawer brackets() {
        SettingsDrawer x = new SettingsDrawer();
        x.erase(0);
        Check.put(x, 1, "+");
        Check.put(x, 2, "<<");
        Check.put(x, 3, ">");
        return x;
    }

    /** Adds a text by slot 4, which holds nothing then. */
    private static int add(SettingsDrawer x, int joiner, String text) {
        Check.put(x, 4, text);
        int length = x.add(joiner, 4);
        x.forget(4);
        return length;
    }

    private static void join() {
        Check.sentence("Makes a joiner with an empty prefix and suffix, in place of the one with this number.");
        SettingsDrawer x = brackets();
        Check.due("join with an empty delimiter", x.join(0, 0), 0);
        Check.dueText("no elements", result(x, 0), "");
        add(x, 0, "a");
        add(x, 0, "b");
        Check.dueText("two elements", result(x, 0), "ab");
        Check.sentence("Returns 0; BAD; NULL_POINTER if delimiter holds nothing (the former joiner stays).");
        Check.due("join of nothing", x.join(0, 4), NULL_POINTER);
        Check.due("join of nothing, none made", x.join(1, 4), NULL_POINTER);
        Check.due("refusals(0)", x.refusals(0), 2);
        Check.due("joinedLength(1)", x.joinedLength(1), NOT_MADE);
        Check.due("the former joiner stays", add(x, 0, "c"), 3);
        x.ifEmpty(0, 2);
        Check.due("join in place of the former", x.join(0, 1), 0);
        Check.dueText("no elements, and no text for this case", result(x, 0), "");
        Check.due("join within brackets replaced", x.joinWithin(0, 1, 2, 3), 3);
        Check.due("join", x.join(0, 1), 0);
        Check.due("joinedLength(0)", x.joinedLength(0), 0);
        Check.putMany(x, 1, '-', 300);
        Check.due("join with the longest delimiter", x.join(1, 1), 0);
        Check.due("an empty element", x.add(1, 0), 0);
        Check.due("another one", x.add(1, 0), 300);
        Check.due("a third one", x.add(1, 0), FULL);
    }

    private static void joinWithin() {
        Check.sentence("FULL if prefix and suffix together have more than 300 characters.");
        SettingsDrawer x = brackets();
        Check.due("joinWithin of empty texts", x.joinWithin(0, 0, 0, 0), 0);
        Check.putMany(x, 2, 'p', 300);
        Check.due("a prefix of 300, an empty suffix", x.joinWithin(0, 1, 2, 0), 300);
        Check.due("an empty prefix, a suffix of 300", x.joinWithin(0, 1, 0, 2), 300);
        Check.due("a delimiter of 300 as well", x.joinWithin(0, 2, 0, 2), 300);
        Check.due("a prefix of 300, a suffix of 1", x.joinWithin(0, 1, 2, 3), FULL);
        Check.due("a prefix of 1, a suffix of 300", x.joinWithin(1, 1, 3, 2), FULL);
        Check.due("a prefix and a suffix of 300", x.joinWithin(1, 1, 2, 2), FULL);
        Check.due("joinedLength(1)", x.joinedLength(1), NOT_MADE);
        Check.due("joinedLength(0)", x.joinedLength(0), 300);
        Check.putMany(x, 2, 'p', 299);
        Check.due("a prefix of 299, a suffix of 1", x.joinWithin(0, 1, 2, 3), 300);
        Check.sentence("NULL_POINTER if one of the three slots holds nothing (the former joiner stays);");
        x.forget(5);
        Check.due("the delimiter is nothing", x.joinWithin(0, 5, 0, 0), NULL_POINTER);
        Check.due("the prefix is nothing", x.joinWithin(0, 1, 5, 0), NULL_POINTER);
        Check.due("the suffix is nothing", x.joinWithin(0, 1, 0, 5), NULL_POINTER);
        Check.due("all three are nothing", x.joinWithin(0, 5, 5, 5), NULL_POINTER);
        Check.due("refusals(0): one for each call", x.refusals(0), 4);
        Check.due("joinedLength(0)", x.joinedLength(0), 300);
    }

    private static void add() {
        Check.sentence("Adds an element to a joiner: the text of a slot; if the slot holds nothing, the four letters null.");
        SettingsDrawer x = brackets();
        x.joinWithin(0, 1, 2, 3);
        x.ifEmpty(0, 1);
        Check.due("add of nothing", x.add(0, 4), 7);
        Check.dueText("the letters", result(x, 0), "<<null>");
        Check.due("refusals(0)", x.refusals(0), 0);
        Check.due("add of the empty text", x.add(0, 0), 8);
        Check.due("add of +", x.add(0, 1), 10);
        Check.dueText("the result", result(x, 0), "<<null+++>");
        x.join(1, 1);
        Check.due("add of the empty text as the first", x.add(1, 0), 0);
        Check.due("add of the empty text as the second", x.add(1, 0), 1);
    }

    private static void addFull() {
        Check.sentence("Returns the length of its result then; BAD; NOT_MADE; FULL if its result would have more than 300 characters.");
        SettingsDrawer x = brackets();
        x.joinWithin(0, 1, 2, 3);
        Check.putMany(x, 4, 'x', 298);
        Check.due("the first element is one too long", x.add(0, 4), FULL);
        Check.dueText("no elements", result(x, 0), "<<>");
        Check.putMany(x, 4, 'x', 297);
        Check.due("the first element fits", x.add(0, 4), 300);
        Check.due("the delimiter does not fit", x.add(0, 0), FULL);
        Check.due("joinedLength(0)", x.joinedLength(0), 300);
        x.join(1, 0);
        Check.putMany(x, 4, 'x', 296);
        x.add(1, 4);
        Check.due("the letters null fit", x.add(1, 5), 300);
        Check.due("an empty element behind an empty delimiter", x.add(1, 0), 300);
        Check.due("one character behind an empty delimiter", x.add(1, 1), FULL);
        Check.due("the letters null do not fit", x.add(1, 5), FULL);
        x.join(1, 1);
        Check.putMany(x, 4, 'x', 298);
        x.add(1, 4);
        Check.due("delimiter and one character", x.add(1, 3), 300);
        x.join(1, 1);
        x.add(1, 4);
        Check.due("delimiter and two characters", x.add(1, 2), FULL);
        x.joinWithin(0, 1, 2, 3);
        Check.putMany(x, 4, 'x', 300);
        x.ifEmpty(0, 4);
        Check.due("the text for no elements is not counted", x.add(0, 0), 3);
    }

    private static void ifEmpty() {
        Check.sentence("Sets the text that is the result of a joiner as long as it has no elements; it can be set at any time.");
        SettingsDrawer x = brackets();
        x.joinWithin(0, 1, 2, 3);
        Check.due("ifEmpty with the empty text", x.ifEmpty(0, 0), 0);
        Check.dueText("the empty text alone", result(x, 0), "");
        Check.due("ifEmpty again", x.ifEmpty(0, 2), 2);
        Check.dueText("the later text", result(x, 0), "<<");
        Check.putMany(x, 4, 'e', 300);
        Check.due("ifEmpty with 300 characters", x.ifEmpty(0, 4), 300);
        Check.due("joinedLength(0)", x.joinedLength(0), 300);
        x.forget(4);
        Check.sentence("Returns the length of its result then; BAD; NOT_MADE; NULL_POINTER if text holds nothing.");
        Check.due("ifEmpty with nothing", x.ifEmpty(0, 4), NULL_POINTER);
        Check.due("joinedLength(0)", x.joinedLength(0), 300);
        Check.due("an empty element", x.add(0, 0), 3);
        Check.due("ifEmpty with an element", x.ifEmpty(0, 2), 3);
        Check.dueText("the element stands", result(x, 0), "<<>");
        Check.due("ifEmpty with nothing, not made", x.ifEmpty(1, 4), NOT_MADE);
        Check.due("refusals(0)", x.refusals(0), 1);
    }

    private static void merge() {
        Check.sentence("Adds the elements of another joiner, with the delimiter of the other joiner between them, and without its prefix "
            + "and suffix, as one element (perhaps an empty one).");
        SettingsDrawer x = brackets();
        x.joinWithin(2, 1, 2, 3);
        Check.put(x, 4, "--");
        x.joinWithin(0, 4, 4, 4);
        add(x, 0, "a");
        Check.due("merge of one element", x.merge(2, 0), 4);
        add(x, 0, "b");
        Check.due("merge of two elements", x.merge(2, 0), 9);
        Check.dueText("the result", result(x, 2), "<<a+a--b>");
        Check.sentence("The other joiner stays as it is.");
        Check.dueText("the other", result(x, 0), "--a--b--");
        Check.due("the other goes on", add(x, 0, "c"), 11);
        Check.dueText("the result stays", result(x, 2), "<<a+a--b>");
        x.join(1, 1);
        x.add(1, 0);
        Check.due("merge of an empty element", x.merge(2, 1), 10);
        Check.dueText("the result", result(x, 2), "<<a+a--b+>");
        x.join(0, 1);
        Check.due("merge of an empty element as the first", x.merge(0, 1), 0);
        Check.due("an element behind it", add(x, 0, "z"), 2);
        Check.sentence("BAD, also if both numbers are the same; NOT_MADE if one of both is not made;");
        for (int joiner = 0; joiner < 3; joiner++) {
            Check.due("merge(" + joiner + ", " + joiner + ")", x.merge(joiner, joiner), SettingsDrawer.BAD);
            Check.due("merge, none made", new SettingsDrawer().merge(joiner, joiner), SettingsDrawer.BAD);
            Check.due("merge, none made", new SettingsDrawer().merge(joiner, (joiner + 1) % 3), NOT_MADE);
        }
    }

    private static void mergeNothing() {
        Check.sentence("Nothing is added if the other joiner has no elements.");
        SettingsDrawer x = brackets();
        x.joinWithin(0, 1, 2, 3);
        x.joinWithin(1, 1, 2, 3);
        x.ifEmpty(1, 2);
        Check.due("merge(0, 1)", x.merge(0, 1), 3);
        Check.dueText("no elements", result(x, 0), "<<>");
        x.ifEmpty(0, 1);
        Check.due("merge(0, 1)", x.merge(0, 1), 1);
        Check.dueText("no elements still", result(x, 0), "+");
        Check.due("the first element", x.add(0, 0), 3);
        Check.due("merge(0, 1)", x.merge(0, 1), 3);
        Check.dueText("one element", result(x, 0), "<<>");
        Check.putMany(x, 4, 'x', 297);
        x.joinWithin(0, 1, 2, 3);
        x.joinWithin(1, 4, 4, 3);
        x.add(0, 4);
        Check.due("merge of no elements into 300", x.merge(0, 1), 300);
    }

    private static void mergeFull() {
        Check.sentence("Returns the length of its result then; BAD, also if both numbers are the same; NOT_MADE if one of both is not made; "
            + "FULL if its result would have more than 300 characters.");
        SettingsDrawer x = brackets();
        Check.putMany(x, 4, 'x', 297);
        x.join(0, 1);
        x.add(0, 4);
        x.joinWithin(1, 1, 2, 3);
        Check.due("merge of 297 within brackets", x.merge(1, 0), 300);
        Check.due("merge again", x.merge(1, 0), FULL);
        Check.due("joinedLength(1)", x.joinedLength(1), 300);
        x.join(0, 1);
        x.append(4, 'x');
        x.add(0, 4);
        x.joinWithin(1, 1, 2, 3);
        x.ifEmpty(1, 1);
        Check.due("merge of 298 within brackets", x.merge(1, 0), FULL);
        Check.dueText("no elements", result(x, 1), "+");
        x.join(2, 1);
        add(x, 2, "a");
        Check.due("merge of 298 behind a and the delimiter", x.merge(2, 0), 300);
        x.join(2, 1);
        add(x, 2, "ab");
        Check.due("merge of 298 behind ab and the delimiter", x.merge(2, 0), FULL);
        Check.dueText("the result", result(x, 2), "ab");
        Check.due("the other stays", x.joinedLength(0), 298);
    }

    private static void joined() {
        Check.sentence("Puts the result of a joiner into a slot.");
        SettingsDrawer x = brackets();
        x.join(0, 1);
        Check.due("joined of no elements", x.joined(0, 4), 0);
        Check.due("length(4)", x.length(4), 0);
        Check.due("joinedLength(0)", x.joinedLength(0), 0);
        Check.putMany(x, 4, 'x', 300);
        x.add(0, 4);
        Check.due("joined of 300", x.joined(0, 5), 300);
        Check.due("same(4, 5)", x.same(4, 5), 1);
        Check.due("joinedLength(0)", x.joinedLength(0), 300);
        Check.due("joined again", x.joined(0, 5), 300);
        Check.due("joined of a joiner that is not made", x.joined(1, 5), NOT_MADE);
        Check.due("length(5): the slot stays", x.length(5), 300);
    }

    private static void setJoined() {
        Check.sentence("Sets the value of a key in a layer itself to the result of a joiner.");
        SettingsDrawer x = brackets();
        x.join(0, 1);
        Check.due("setJoined of an empty result and the empty key", x.setJoined(3, 0, 0), 1);
        Check.dueText("the value", Check.value(x, 3, ""), "");
        x.ifEmpty(0, 2);
        Check.due("setJoined of the text for no elements", x.setJoined(3, 0, 0), 1);
        Check.dueText("the value", Check.value(x, 3, ""), "<<");
        Check.due("size(0): the layer itself", x.size(0), 0);
        Check.due("setJoined in a lower layer", x.setJoined(0, 0, 0), 1);
        Check.putMany(x, 4, 'x', 300);
        x.add(0, 4);
        Check.due("setJoined of 300", x.setJoined(3, 4, 0), 2);
        Check.due("get of it", x.get(3, 4, 5), 300);
        Check.sentence("NOT_MADE; NULL_POINTER if key holds nothing (by TreeMap.containsKey()); FULL if the key would be the forty-first one.");
        x.forget(5);
        Check.due("setJoined of nothing, not made", x.setJoined(3, 5, 1), NOT_MADE);
        Check.due("setJoined of nothing", x.setJoined(3, 5, 0), NULL_POINTER);
        Check.due("refusals(0)", x.refusals(0), 1);
        SettingsDrawer y = brackets();
        y.join(2, 1);
        Check.fortyEntries(y, 1);
        int digest = y.digest(1);
        Check.due("setJoined of the forty-first key", y.setJoined(1, 1, 2), FULL);
        Check.due("digest(1)", y.digest(1), digest);
        Check.due("setJoined of nothing in a full layer", y.setJoined(1, 5, 2), NULL_POINTER);
        Check.put(y, 4, "a");
        Check.due("setJoined of a key that it has", y.setJoined(1, 4, 2), 40);
        Check.due("drop of it", y.drop(1, 4, 5), 39);
        Check.due("setJoined of the fortieth key", y.setJoined(1, 1, 2), 40);
    }

    // ---- images, refusals

    private static void keep() {
        Check.sentence("Returns the number of entries of all four layers together; BAD.");
        SettingsDrawer x = new SettingsDrawer();
        Check.due("keep(1) of no entries", x.keep(1), 0);
        Check.fortyEntries(x, 0);
        for (int layer = 1; layer < 4; layer++) {
            Check.due("keep(0)", x.keep(0), 40 * layer);
            Check.fortyEntries(x, layer);
        }
        Check.due("keep(0) of four full layers", x.keep(0), 160);
        Check.sentence("Keeps the entries of all layers in an image, in place of what it held.");
        x.empty(0);
        Check.due("keep(0)", x.keep(0), 120);
        Check.due("restore(0)", x.restore(0), 120);
        Check.due("size(0)", x.size(0), 0);
        Check.due("restore(1)", x.restore(1), 0);
        Check.due("keep(0) of no entries", x.keep(0), 0);
        Check.due("restore(0) of an image without entries", x.restore(0), 0);
    }

    private static void restore() {
        Check.sentence("Lets all layers have the entries that an image holds. The image stays.");
        SettingsDrawer x = Check.loaded("a=1\nb=2");
        Check.due("restore(0), not made", x.restore(0), NOT_MADE);
        Check.due("size(0)", x.size(0), 2);
        x.keep(0);
        int digest = x.digest(0);
        for (int times = 0; times < 3; times++) {
            Check.entry(x, 0, "a", "changed");
            Check.entry(x, 0, "c", "new");
            Check.entry(x, times + 1, "d", "new");
            Check.due("restore(0)", x.restore(0), 2);
            Check.due("digest(0)", x.digest(0), digest);
            Check.due("names(3)", x.names(3), 2);
        }
        x.empty(0);
        Check.due("restore(0) into empty layers", x.restore(0), 2);
        Check.fortyEntries(x, 0);
        Check.due("size(0): the forty-first key did not fit", x.size(0), 40);
        Check.due("restore(0) into a full layer", x.restore(0), 2);
        Check.due("digest(0)", x.digest(0), digest);
        Check.due("restore(1), not made", x.restore(1), NOT_MADE);
        Check.due("the tape stays", x.tapeLength(), 7);
    }

    private static void refusals() {
        Check.sentence("Returns how often a method has returned NULL_POINTER (kind 0) or NO_SUCH_ELEMENT (kind 1); BAD.");
        SettingsDrawer x = new SettingsDrawer();
        Check.put(x, 0, "k");
        for (int times = 1; times <= 100; times++) {
            Check.due("has(0, nothing)", x.has(0, 5), NULL_POINTER);
            Check.due("refusals(0)", x.refusals(0), times);
        }
        for (int times = 1; times <= 50; times++) {
            x.tokenizeBy(1, 0, 0);
            Check.due("next(1, 0)", x.next(1, 0), NO_SUCH_ELEMENT);
            Check.due("refusals(1)", x.refusals(1), times);
        }
        Check.due("refusals(0) still", x.refusals(0), 100);
        for (int kind : new int[] {-1, 2, Integer.MIN_VALUE, Integer.MAX_VALUE}) {
            Check.due("refusals(" + kind + ")", x.refusals(kind), SettingsDrawer.BAD);
        }
    }
}
