/** Promises 29 to 36: the tokenizers. */
public final class TokenizerTests {
    public static void main(String[] args) {
        tokenize();
        tokenizeBy();
        tokenizeAll();
        tokenizeValue();
        moreAndCount();
        next();
        nextBy();
        nextByOfReturned();
        longTexts();
        Check.finish("TokenizerTests");
    }

    private static void tokenize() {
        SettingsDrawer x = new SettingsDrawer();
        Check.put(x, 0, " a\tb\nc\rd\fe,\u000bf  \u00a0 g ");
        Check.due("tokenize(-1, 0)", x.tokenize(-1, 0), SettingsDrawer.BAD);
        Check.due("tokenize(2, 0)", x.tokenize(2, 0), SettingsDrawer.BAD);
        Check.due("tokenize(0, 6)", x.tokenize(0, 6), SettingsDrawer.BAD);
        Check.due("tokenize(2, 1) of nothing", x.tokenize(2, 1), SettingsDrawer.BAD);
        Check.due("tokenize(0, 0)", x.tokenize(0, 0), 7);
        Check.due("tokenize(0, nothing)", x.tokenize(0, 1), SettingsDrawer.NULL_POINTER);
        Check.due("refusals(0)", x.refusals(0), 1);
        Check.due("count(0): the former tokenizer stays", x.count(0), 7);
        Check.dueText("tokens", Check.tokens(x, 0), "a|b|c|d|e,\u000bf|\u00a0|g|");
        Check.due("count(1)", x.count(1), SettingsDrawer.NOT_MADE);
        x.erase(0);
        Check.due("tokenize of the empty text", x.tokenize(1, 0), 0);
        Check.due("more(1)", x.more(1), 0);
        Check.put(x, 0, "one two");
        Check.due("tokenize in place of the former", x.tokenize(1, 0), 2);
        x.erase(0);
        Check.dueText("the text is that of the making", Check.tokens(x, 1), "one|two|");
    }

    private static void tokenizeBy() {
        SettingsDrawer x = new SettingsDrawer();
        Check.put(x, 0, ",a b;;c,");
        Check.put(x, 1, ";,");
        Check.due("tokenizeBy(-1, 0, 1)", x.tokenizeBy(-1, 0, 1), SettingsDrawer.BAD);
        Check.due("tokenizeBy(2, 0, 1)", x.tokenizeBy(2, 0, 1), SettingsDrawer.BAD);
        Check.due("tokenizeBy(2, nothing, nothing)", x.tokenizeBy(2, 2, 2), SettingsDrawer.BAD);
        Check.due("tokenizeBy(2, nothing, 1)", x.tokenizeBy(2, 2, 1), SettingsDrawer.BAD);
        Check.due("tokenizeBy(0, 6, 1)", x.tokenizeBy(0, 6, 1), SettingsDrawer.BAD);
        Check.due("tokenizeBy(0, 0, -1)", x.tokenizeBy(0, 0, -1), SettingsDrawer.BAD);
        Check.due("tokenizeBy(0, 0, 1)", x.tokenizeBy(0, 0, 1), 2);
        Check.due("tokenizeBy(0, nothing, nothing)", x.tokenizeBy(0, 2, 2), SettingsDrawer.NOTHING);
        Check.due("refusals(0) after NOTHING", x.refusals(0), 0);
        Check.due("tokenizeBy(0, nothing, 1)", x.tokenizeBy(0, 2, 1), SettingsDrawer.NULL_POINTER);
        Check.due("tokenizeBy(0, 0, nothing)", x.tokenizeBy(0, 0, 2), SettingsDrawer.NOTHING);
        Check.due("refusals(0)", x.refusals(0), 1);
        Check.dueText("tokens", Check.tokens(x, 0), "a b|c|");
        x.erase(1);
        Check.due("tokenizeBy without delimiters", x.tokenizeBy(1, 0, 1), 1);
        Check.dueText("the whole text", Check.tokens(x, 1), ",a b;;c,|");
    }

    private static void tokenizeAll() {
        SettingsDrawer x = new SettingsDrawer();
        Check.put(x, 0, ",a b;;c,");
        Check.put(x, 1, ";,");
        Check.due("tokenizeAll(-1, 0, 1)", x.tokenizeAll(-1, 0, 1), SettingsDrawer.BAD);
        Check.due("tokenizeAll(2, 0, 1)", x.tokenizeAll(2, 0, 1), SettingsDrawer.BAD);
        Check.due("tokenizeAll(-1, nothing, nothing)", x.tokenizeAll(-1, 2, 2), SettingsDrawer.BAD);
        Check.due("tokenizeAll(0, 6, nothing)", x.tokenizeAll(0, 6, 2), SettingsDrawer.BAD);
        Check.due("tokenizeAll(0, -1, 1)", x.tokenizeAll(0, -1, 1), SettingsDrawer.BAD);
        Check.due("tokenizeAll(0, 0, 6)", x.tokenizeAll(0, 0, 6), SettingsDrawer.BAD);
        Check.due("tokenizeAll(0, 0, 1)", x.tokenizeAll(0, 0, 1), 6);
        Check.due("tokenizeAll(0, nothing, nothing)", x.tokenizeAll(0, 2, 2), SettingsDrawer.NOTHING);
        Check.due("tokenizeAll(0, nothing, 1)", x.tokenizeAll(0, 2, 1), SettingsDrawer.NULL_POINTER);
        Check.due("refusals(0)", x.refusals(0), 1);
        Check.dueText("tokens", Check.tokens(x, 0), ",|a b|;|;|c|,|");
        x.erase(1);
        Check.due("tokenizeAll without delimiters", x.tokenizeAll(1, 0, 1), 1);
        Check.dueText("the whole text", Check.tokens(x, 1), ",a b;;c,|");
        Check.due("tokenizeAll of the empty text", x.tokenizeAll(1, 1, 0), 0);
        Check.due("next of the empty text", x.next(1, 3), SettingsDrawer.NO_SUCH_ELEMENT);
    }

    private static void tokenizeValue() {
        SettingsDrawer x = Check.loaded("list=a,b,,c d\n");
        Check.put(x, 0, "list");
        Check.put(x, 1, ",");
        Check.due("tokenizeValue(-1, 0, 0, 1)", x.tokenizeValue(-1, 0, 0, 1), SettingsDrawer.BAD);
        Check.due("tokenizeValue(2, 0, 0, 1)", x.tokenizeValue(2, 0, 0, 1), SettingsDrawer.BAD);
        Check.due("tokenizeValue(2, 0, 0, nothing)", x.tokenizeValue(2, 0, 0, 2), SettingsDrawer.BAD);
        Check.due("tokenizeValue(2, 0, nothing, 1)", x.tokenizeValue(2, 0, 2, 1), SettingsDrawer.BAD);
        Check.due("tokenizeValue(0, 4, nothing, nothing)", x.tokenizeValue(0, 4, 2, 2), SettingsDrawer.BAD);
        Check.due("tokenizeValue(0, -1, 0, 1)", x.tokenizeValue(0, -1, 0, 1), SettingsDrawer.BAD);
        Check.due("tokenizeValue(0, 4, 0, 1)", x.tokenizeValue(0, 4, 0, 1), SettingsDrawer.BAD);
        Check.due("tokenizeValue(0, 0, 6, 1)", x.tokenizeValue(0, 0, 6, 1), SettingsDrawer.BAD);
        Check.due("tokenizeValue(0, 0, 0, 6)", x.tokenizeValue(0, 0, 0, 6), SettingsDrawer.BAD);
        Check.due("tokenizeValue(0, 3, 0, 1)", x.tokenizeValue(0, 3, 0, 1), 3);
        Check.due("count(0)", x.count(0), 3);
        Check.due("tokenizeValue(0, 0, nothing, nothing)", x.tokenizeValue(0, 0, 2, 2), SettingsDrawer.NOTHING);
        Check.due("tokenizeValue(0, 0, 0, nothing)", x.tokenizeValue(0, 0, 0, 2), SettingsDrawer.NOTHING);
        Check.due("refusals(0) after NOTHING", x.refusals(0), 0);
        Check.due("tokenizeValue(0, 0, nothing, 1)", x.tokenizeValue(0, 0, 2, 1), SettingsDrawer.NULL_POINTER);
        Check.due("refusals(0)", x.refusals(0), 1);
        Check.due("tokenizeValue(0, 3, 1, 1)", x.tokenizeValue(0, 3, 1, 1), SettingsDrawer.NONE);
        x.empty(0);
        Check.dueText("tokens", Check.tokens(x, 0), "a|b|c d|");
    }

    private static void moreAndCount() {
        SettingsDrawer x = new SettingsDrawer();
        for (int tokenizer : new int[] {-1, 2}) {
            Check.due("more(" + tokenizer + ")", x.more(tokenizer), SettingsDrawer.BAD);
            Check.due("count(" + tokenizer + ")", x.count(tokenizer), SettingsDrawer.BAD);
        }
        Check.due("more(0)", x.more(0), SettingsDrawer.NOT_MADE);
        Check.due("count(0)", x.count(0), SettingsDrawer.NOT_MADE);
        Check.put(x, 0, "  a b ");
        x.tokenize(0, 0);
        int[] left = {2, 1, 0};
        for (int want : left) {
            Check.due("count(0)", x.count(0), want);
            Check.due("more(0)", x.more(0), want > 0 ? 1 : 0);
            Check.due("count(0) changes nothing", x.count(0), want);
            if (want > 0) {
                x.next(0, 1);
            }
        }
        Check.put(x, 0, ",,");
        Check.due("only delimiters", x.tokenizeBy(0, 0, 0), 0);
        Check.due("more(0) of only delimiters", x.more(0), 0);
        Check.due("only delimiters, returned", x.tokenizeAll(0, 0, 0), 2);
        Check.due("more(0) of returned delimiters", x.more(0), 1);
    }

    private static void next() {
        SettingsDrawer x = new SettingsDrawer();
        Check.due("next(-1, 0)", x.next(-1, 0), SettingsDrawer.BAD);
        Check.due("next(2, 0)", x.next(2, 0), SettingsDrawer.BAD);
        Check.due("next(0, -1)", x.next(0, -1), SettingsDrawer.BAD);
        Check.due("next(0, 6)", x.next(0, 6), SettingsDrawer.BAD);
        Check.due("next(0, 0)", x.next(0, 0), SettingsDrawer.NOT_MADE);
        Check.due("refusals(1) after NOT_MADE", x.refusals(1), 0);
        Check.put(x, 0, "ab c ");
        x.tokenize(0, 0);
        x.tokenize(1, 0);
        Check.due("next(0, 0) into the text's slot", x.next(0, 0), 2);
        Check.dueText("the token", Check.read(x, 0), "ab");
        Check.due("the tokenizers stand apart", x.count(1), 2);
        Check.due("next(0, 0)", x.next(0, 0), 1);
        Check.dueText("the token", Check.read(x, 0), "c");
        Check.due("next(0, 6) ahead of the end", x.next(0, 6), SettingsDrawer.BAD);
        Check.due("next(0, 0) without a token", x.next(0, 0), SettingsDrawer.NO_SUCH_ELEMENT);
        Check.dueText("the slot after NO_SUCH_ELEMENT", Check.read(x, 0), "c");
        Check.due("next(0, 0) of a dropped tokenizer", x.next(0, 0), SettingsDrawer.NOT_MADE);
        Check.due("count(0) of a dropped tokenizer", x.count(0), SettingsDrawer.NOT_MADE);
        Check.due("refusals(1)", x.refusals(1), 1);
        Check.due("the other tokenizer stays", x.count(1), 2);
    }

    private static void nextBy() {
        SettingsDrawer x = new SettingsDrawer();
        Check.put(x, 1, ";");
        Check.put(x, 2, ",");
        Check.due("nextBy(-1, 1, 0)", x.nextBy(-1, 1, 0), SettingsDrawer.BAD);
        Check.due("nextBy(2, 1, 0)", x.nextBy(2, 1, 0), SettingsDrawer.BAD);
        Check.due("nextBy(0, 6, 0)", x.nextBy(0, 6, 0), SettingsDrawer.BAD);
        Check.due("nextBy(0, 1, 6)", x.nextBy(0, 1, 6), SettingsDrawer.BAD);
        Check.due("nextBy(0, nothing, 0)", x.nextBy(0, 3, 0), SettingsDrawer.NOT_MADE);
        Check.put(x, 0, "a,b;c;,d");
        x.tokenizeBy(0, 0, 2);
        x.next(0, 4);
        Check.due("nextBy(0, nothing, 4)", x.nextBy(0, 3, 4), SettingsDrawer.NOTHING);
        Check.due("count(0) by the former delimiters", x.count(0), 2);
        Check.due("nextBy(0, 1, 1) into the delimiters' slot", x.nextBy(0, 1, 1), 2);
        Check.dueText("the former delimiter belongs to the token", Check.read(x, 1), ",b");
        Check.due("count(0) by the new delimiters", x.count(0), 2);
        Check.due("next(0, 4)", x.next(0, 4), 1);
        Check.dueText("the token", Check.read(x, 4), "c");
        x.erase(1);
        Check.due("nextBy without delimiters", x.nextBy(0, 1, 4), 3);
        Check.dueText("all that is left", Check.read(x, 4), ";,d");
        Check.due("nextBy at the end", x.nextBy(0, 1, 4), SettingsDrawer.NO_SUCH_ELEMENT);
        Check.due("nextBy of a dropped tokenizer", x.nextBy(0, 1, 4), SettingsDrawer.NOT_MADE);
        Check.due("refusals(1)", x.refusals(1), 1);
        x.tokenizeBy(0, 2, 1);
        Check.due("nextBy with only delimiters left", x.nextBy(0, 2, 4), SettingsDrawer.NO_SUCH_ELEMENT);
        Check.dueText("the slot after NO_SUCH_ELEMENT", Check.read(x, 4), ";,d");
        Check.due("refusals(1)", x.refusals(1), 2);
    }

    /** more() has looked ahead with the former delimiters; the position has not moved. */
    private static void nextByOfReturned() {
        SettingsDrawer x = new SettingsDrawer();
        Check.put(x, 0, ",,a;b");
        Check.put(x, 1, ",");
        Check.put(x, 2, ";");
        x.tokenizeBy(0, 0, 1);
        x.more(0);
        Check.due("nextBy behind more()", x.nextBy(0, 2, 4), 3);
        Check.dueText("the token", Check.read(x, 4), ",,a");
        x.tokenizeAll(1, 0, 1);
        x.next(1, 4);
        Check.due("nextBy of returned delimiters", x.nextBy(1, 2, 4), 2);
        Check.dueText("the token", Check.read(x, 4), ",a");
        Check.dueText("the rest", Check.tokens(x, 1), ";|b|");
    }

    private static void longTexts() {
        SettingsDrawer x = new SettingsDrawer();
        Check.putMany(x, 0, 'x', 300);
        Check.put(x, 1, "x");
        Check.due("tokenizeAll of 300 delimiters", x.tokenizeAll(0, 0, 1), 300);
        Check.due("tokenizeAll with 300 delimiters", x.tokenizeAll(0, 0, 0), 300);
        Check.due("tokenizeBy of 300 delimiters", x.tokenizeBy(0, 0, 1), 0);
        Check.put(x, 1, ",");
        Check.due("tokenizeBy of one token", x.tokenizeBy(0, 0, 1), 1);
        Check.due("next(0, 2)", x.next(0, 2), 300);
        Check.due("same(0, 2)", x.same(0, 2), 1);
    }
}
