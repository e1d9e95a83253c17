/** The section "Reading", sentence by sentence: tapes with the entries that they tell, or the place where they break. */
public final class ReadingTests {
    public static void main(String[] args) {
        lineEnds();
        skippedLines();
        entriesThatGoOn();
        leftOutBlanks();
        linesThatAreNotSkipped();
        lineBehindTheLastEnd();
        entriesWithoutCharacters();
        pairs();
        keys();
        wholeEntryIsTheKey();
        blanksWhereTheKeyEnds();
        values();
        replacedPairs();
        hexadecimalDigits();
        withinTheSamePart();
        numbersUpTo255();
        brokenPlaces();
        firstBrokenPair();
        longestTapes();
        Check.finish("ReadingTests");
    }

    /** The entries, in ascending order of their keys, as key>value, each ended by a bar. */
    private static void reads(String tape, String entries) {
        SettingsDrawer x = new SettingsDrawer();
        Check.type(x, tape);
        Check.due("brokenAt() of " + tape, x.brokenAt(), SettingsDrawer.NONE);
        int bars = entries.length() - entries.replace("|", "").length();
        Check.due("load(0) of <" + tape + ">", x.load(0), bars);
        if (tape.length() < 100) {
            Check.dueText("entries of <" + tape + ">", Check.entries(x), entries);
        } else {
            Check.due("digest(0) of <" + tape + ">", x.digest(0), digestOf(entries));
        }
    }

    /** A drawer answers 512 calls, so that long texts are not read character by character. */
    private static int digestOf(String entries) {
        int digest = 7;
        for (char c : entries.toCharArray()) {
            digest = 31 * digest + (c == '>' ? 256 : c == '|' ? 257 : c);
        }
        return digest;
    }

    private static void breaks(String tape, int place) {
        SettingsDrawer x = new SettingsDrawer();
        Check.type(x, tape);
        Check.due("brokenAt() of <" + tape + ">", x.brokenAt(), place);
        Check.due("load(0) of <" + tape + ">", x.load(0), SettingsDrawer.BROKEN);
        Check.due("size(0) of <" + tape + ">", x.size(0), 0);
    }

    private static void lineEnds() {
        Check.sentence("A line of the tape ends with a line feed, with a carriage return, or with a carriage return directly "
            + "followed by a line feed (these two together end one line), or at the end of the tape.");
        reads("a=1\nb=2", "a>1|b>2|");
        reads("a=1\rb=2", "a>1|b>2|");
        reads("a=1\r\nb=2", "a>1|b>2|");
        reads("a=1\n\rb=2", "a>1|b>2|");
        reads("a=1\nb=2\n", "a>1|b>2|");
        reads("a=1\nb=2\r", "a>1|b>2|");
        reads("a=1\nb=2\r\n", "a>1|b>2|");
        // What ends one line, and what ends two, is seen where an entry goes on.
        reads("a=1\\\nb=2", "a>1b=2|");
        reads("a=1\\\rb=2", "a>1b=2|");
        reads("a=1\\\r\nb=2", "a>1b=2|");
        reads("a=1\\\n\rb=2", "a>1|b>2|");
        reads("a=1\\\n\nb=2", "a>1|b>2|");
        reads("a=1\\\r\rb=2", "a>1|b>2|");
        reads("a=1\\\r\r\nb=2", "a>1|b>2|");
        reads("a=1\\\r\n\nb=2", "a>1|b>2|");
        Check.sentence("The characters that end a line do not belong to it.");
        reads("a\n", "a>|");
        reads("a\r", "a>|");
        reads("a\r\n", "a>|");
        reads("a=\r\n", "a>|");
    }

    private static void skippedLines() {
        Check.sentence("A line of blanks only, or without characters, is skipped.");
        reads("", "");
        reads(" ", "");
        reads("\t", "");
        reads("\n", "");
        reads("\r\n", "");
        reads(" \t \n\t\t\r  \r\n ", "");
        reads("\n\na=1\n \n\t\nb=2\n\n", "a>1|b>2|");
        Check.sentence("A line whose first character that is not a blank is # or ! is skipped (also if it ends with a backslash).");
        reads("#", "");
        reads("!", "");
        reads("#a=1\n!b=2", "");
        reads(" #a=1\n\t!b=2\n \t #", "");
        reads("#a\\\nb=1", "b>1|");
        reads("!a\\\nb=1", "b>1|");
        reads(" \t!a\\\\\\\r\nb=1", "b>1|");
        reads("#\\", "");
        reads("#\\u", "");
        reads("a#=1\na!=!", "a!>!|a#>1|");
        reads("\\#a=1\n\\!b=2", "!b>2|#a>1|");
        reads("=#", ">#|");
    }

    private static void entriesThatGoOn() {
        Check.sentence("If the line ends with an odd number of backslashes (counted in this line alone), the last of these is "
            + "left out, and the entry goes on with the next line, if there is one:");
        reads("a=1\\\nb", "a>1b|");
        reads("a=1\\\\\nb", "a>1\\|b>|");
        reads("a=1\\\\\\\nb", "a>1\\b|");
        reads("a=1\\\\\\\\\nb", "a>1\\\\|b>|");
        reads("a=1\\\\\\\\\\\nb", "a>1\\\\b|");
        reads("a=1\\ \nb", "a>1 |b>|");
        reads("a=1\\t\\\nb", "a>1\tb|");
        reads("a=1\\\n\\\nb", "a>1b|");
        reads("a=1\\\n\\\\\nb", "a>1\\|b>|");
        reads("a=1\\\\\\\n\\\\\\\nb", "a>1\\\\b|");
        reads("a=1\\\n  \\\nb", "a>1b|");
        reads("a=1\\", "a>1|");
        reads("a=1\\\\\\", "a>1\\|");
        reads("a\\\nb\\\nc\\\nd", "abcd>|");
        reads("a\\", "a>|");
    }

    private static void leftOutBlanks() {
        Check.sentence("The blanks at its beginning are left out.");
        reads(" a=1", "a>1|");
        reads("\t \ta=1", "a>1|");
        reads(" =1", ">1|");
        Check.sentence("the blanks at the beginning of that line are left out, its other characters are added to the entry, and it "
            + "is treated in the same way if it ends with an odd number of backslashes itself.");
        reads("a=1\\\n \t 2", "a>12|");
        reads("a=1 \\\n 2 \t", "a>1 2 \t|");
        reads("a=1\\\n\\ 2", "a>1 2|");
        reads("a=1\\\n 2\\\n\t3\\\n4", "a>1234|");
        reads("a\\\n =\\\n 1", "a>1|");
        reads("a\\\n b", "ab>|");
    }

    private static void linesThatAreNotSkipped() {
        Check.sentence("A line with which an entry goes on belongs to the entry whatever it holds; it is not skipped.");
        reads("a=1\\\n#b=2", "a>1#b=2|");
        reads("a=1\\\n!b=2", "a>1!b=2|");
        reads("a=1\\\n  #b\\\n!c", "a>1#b!c|");
        reads("a=1\\\n\nb=2", "a>1|b>2|");
        reads("a=1\\\n \t\nb=2", "a>1|b>2|");
        reads("\\\n#k=v", "#k>v|");
        reads("\\\n!k=v", "!k>v|");
        reads(" \\\n \\\n #k=v", "#k>v|");
    }

    private static void lineBehindTheLastEnd() {
        Check.sentence("After a line end at the very end of the tape there is one more line, without characters.");
        reads("a=1\\\n", "a>1|");
        reads("a=1\\\r", "a>1|");
        reads("a=1\\\r\n", "a>1|");
        reads("\\\n", "");
        reads("a\\\n", "a>|");
        reads("a=\\\n", "a>|");
    }

    private static void entriesWithoutCharacters() {
        Check.sentence("If the entry has no characters at all then, it is skipped.");
        reads("\\", "");
        reads(" \t\\", "");
        reads("\\\n\\", "");
        reads("\\\n\\\r\\\r\n\\\n", "");
        reads("\\\n \nb=1", "b>1|");
        reads("a=1\n\\\n\nb=2", "a>1|b>2|");
        reads("\\\na", "a>|");
        reads("\\\n=", ">|");
    }

    private static void pairs() {
        Check.sentence("In an entry, going from the left, a backslash and the character that follows it are a pair.");
        reads("\\\\=1", "\\>1|");
        reads("\\\\\\=1", "\\=1>|");
        reads("\\\\\\\\=1", "\\\\>1|");
        reads("a\\=b=1", "a=b>1|");
        reads("a=\\\\n", "a>\\n|");
        reads("a=\\\\\\n", "a>\\\n|");
        reads("a=\\\\u", "a>\\u|");
        reads("a\\u003d=1", "a=>1|");
        Check.sentence("(A backslash always has a character that follows it.)");
        reads("a=\\\\\\", "a>\\|");
        reads("\\\\", "\\>|");
    }

    private static void keys() {
        Check.sentence("The key consists of all characters ahead of the first =, :, space or tab that is not part of a pair;");
        reads("a=1", "a>1|");
        reads("a:1", "a>1|");
        reads("a 1", "a>1|");
        reads("a\t1", "a>1|");
        reads("a=b:c d\te", "a>b:c d\te|");
        reads("a:b=c", "a>b=c|");
        reads("a b=c", "a>b=c|");
        reads("a\tb:c", "a>b:c|");
        reads("a\\=\\:\\ \\\tb=1", "a=: \tb>1|");
        reads("=1", ">1|");
        reads(":1", ">1|");
        reads("=", ">|");
        reads(":", ">|");
        reads("\\ =1", " >1|");
    }

    private static void wholeEntryIsTheKey() {
        Check.sentence("without one, the whole entry is the key, and the value is empty.");
        reads("a", "a>|");
        reads("ab#!c", "ab#!c>|");
        reads("a\\=b", "a=b>|");
        reads("a\\\\b", "a\\b>|");
        reads("\\:", ":>|");
        reads("a\\ ", "a >|");
    }

    private static void blanksWhereTheKeyEnds() {
        Check.sentence("Blanks at the place where the key ends are left out; if = or : stands there then, it is left out, and so "
            + "are the blanks that follow it.");
        reads("a ", "a>|");
        reads("a \t", "a>|");
        reads("a =", "a>|");
        reads("a = ", "a>|");
        reads("a  1", "a>1|");
        reads("a \t= \t1", "a>1|");
        reads("a \t: \t1", "a>1|");
        reads("a =1", "a>1|");
        reads("a= 1", "a>1|");
        reads("a==1", "a>=1|");
        reads("a=:1", "a>:1|");
        reads("a::1", "a>:1|");
        reads("a:=1", "a>=1|");
        reads("a = = 1", "a>= 1|");
        reads("a : : 1", "a>: 1|");
        reads("a \\=1", "a>=1|");
        reads("a \\:1", "a>:1|");
        reads("a \\ 1", "a> 1|");
        reads("a=\\ 1", "a> 1|");
        reads("a =\\\n = 1", "a>= 1|");
    }

    private static void values() {
        Check.sentence("All other characters are the value.");
        reads("a=1 ", "a>1 |");
        reads("a=1 \t ", "a>1 \t |");
        reads("a=b=c:d e#f!g", "a>b=c:d e#f!g|");
        reads("a b ", "a>b |");
        reads("a=#", "a>#|");
    }

    private static void replacedPairs() {
        Check.sentence("backslash and t by a tab, backslash and n by a line feed, backslash and r by a carriage return,");
        reads("\\t=\\t", "\t>\t|");
        reads("\\n=\\n", "\n>\n|");
        reads("\\r=\\r", "\r>\r|");
        Check.sentence("backslash and any other character by this character.");
        for (char character = 33; character < 127; character++) {
            // The bar ends the entries in what these tests compare.
            if ("tnru|".indexOf(character) < 0) {
                reads("k\\" + character + "=\\" + character, "k" + character + ">" + character + "|");
            }
        }
        reads("\\ =\\ ", " > |");
        reads("\\\t=\\\t", "\t>\t|");
        reads("\\U0041=\\T", "U0041>T|");
    }

    private static void hexadecimalDigits() {
        Check.sentence("backslash and u together with the next four characters by the character with this number;");
        reads("\\u0041=\\u0061", "A>a|");
        reads("\\u00410=\\u00610", "A0>a0|");
        reads("\\u0000=\\u0001", "\u0000>\u0001|");
        reads("a=\\u005cn", "a>\\n|");
        reads("a=\\u0020\\u0009", "a> \t|");
        reads("a=\\u0041\\u0042", "a>AB|");
        Check.sentence("The four characters after u must be hexadecimal digits (0 to 9, a to f, A to F),");
        reads("k=\\u0009", "k>\t|");
        reads("k=\\u000a\\u000f", "k>\n\u000f|");
        reads("k=\\u000A\\u000F", "k>\n\u000f|");
        reads("k=\\u00aF\\u00fA\\u0090\\u0009", "k>\u00af\u00fa\u0090\t|");
        for (char wrong : "/:@G`gZz -+xX.\\=#!_~".toCharArray()) {
            String sign = wrong == '\\' ? "\\\\" : String.valueOf(wrong);
            breaks("k=\\u" + sign + "000", 2);
            breaks("k=\\u0" + sign + "00", 2);
            breaks("k=\\u00" + sign + "0", 2);
            breaks("k=\\u000" + sign, 2);
        }
    }

    private static void withinTheSamePart() {
        Check.sentence("must stand within the same key or value,");
        breaks("\\u", 0);
        breaks("\\u0", 0);
        breaks("\\u00", 0);
        breaks("\\u004", 0);
        reads("\\u0041", "A>|");
        breaks("k=\\u", 2);
        breaks("k=\\u0", 2);
        breaks("k=\\u00", 2);
        breaks("k=\\u004", 2);
        reads("k=\\u0041", "k>A|");
        breaks("k=\\u004\n1", 2);
        breaks("k=\\u004\r1", 2);
        reads("k=\\u004\\\n1", "k>A|");
        reads("k=\\u\\\n00\\\r\n  41", "k>A|");
        reads("k=\\\\\\\nu0041", "k>\\u0041|");
        for (String end : new String[] {"=", ":", " ", "\t"}) {
            breaks("\\u" + end + "0041", 0);
            breaks("\\u004" + end + "1", 0);
            reads("\\u0041" + end + "1", "A>1|");
        }
    }

    private static void numbersUpTo255() {
        Check.sentence("and must tell a number of at most 255 (00ff);");
        reads("k=\\u00fe\\u00ff\\u00FF", "k>\u00fe\u00ff\u00ff|");
        reads("\\u00ff=", "\u00ff>|");
        breaks("k=\\u0100", 2);
        breaks("\\u0100", 0);
        breaks("k=\\u0200", 2);
        breaks("k=\\u1000", 2);
        breaks("k=\\u8000", 2);
        breaks("k=\\uffff", 2);
        breaks("k=\\u0FFF", 2);
        reads("k=\\u00100", "k>\u00100|");
    }

    private static void brokenPlaces() {
        Check.sentence("otherwise the tape is broken at the backslash of this pair.");
        breaks("\\ug", 0);
        breaks("  \\ug", 2);
        breaks("a=1\n#\\u\n b\\\\\\u", 12);
        breaks("a=\\\r\n  \\\r\n  \\ug", 12);
        breaks("a=\\u\\\n0", 2);
        breaks("a=\\\\\\u0\\\n00\\g", 4);
        breaks("\\\n\\u", 2);
        breaks("\r\n\r\n=\\u", 5);
    }

    private static void firstBrokenPair() {
        Check.sentence("The first broken pair is the one that comes first on the tape.");
        breaks("\\u=\\u", 0);
        breaks("\\u0041=\\u\n\\u", 7);
        breaks("a=1\nb=\\ux\\uy\nc=\\uz", 6);
        breaks("z=\\u\na=\\u", 2);
        breaks("a=1\nb=\\u00ff\\u0100", 12);
        breaks("#\\u\na=\\u1", 6);
    }

    private static void longestTapes() {
        Check.sentence("The tape is a text of at most 300 characters.");
        reads(Check.many('a', 299) + "b", Check.many('a', 299) + "b>|");
        reads("=" + Check.many('v', 298) + "w", ">" + Check.many('v', 298) + "w|");
        reads(Check.many('\n', 297) + "a=1", "a>1|");
        reads(Check.many(' ', 299) + "a", "a>|");
        reads("a=1" + Check.many(' ', 297), "a>1" + Check.many(' ', 297) + "|");
        reads("a" + Check.many(' ', 299), "a>|");
        reads("#" + Check.many('\\', 299), "");
        reads(Check.many('\\', 300), Check.many('\\', 150) + ">|");
        reads("a" + Check.many('\\', 299), "a" + Check.many('\\', 149) + ">|");
        reads("a=1" + "\\\n".repeat(148) + "b", "a>1b|");
        reads("\\\n".repeat(150), "");
        reads("\\u0041".repeat(50), Check.many('A', 50) + ">|");
        breaks("\\u0041".repeat(49) + "\\u0100", 294);
        breaks("#" + Check.many('c', 296) + "\n\\u", 298);
        breaks("a\n".repeat(149) + "\\u", 298);
        SettingsDrawer x = new SettingsDrawer();
        Check.type(x, "=\n".repeat(150));
        Check.due("load(0) of 150 entries of the empty key", x.load(0), 150);
        Check.due("size(0)", x.size(0), 1);
    }
}
