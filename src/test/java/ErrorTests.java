import java.lang.reflect.Method;
import java.util.ArrayList;
import java.util.HashMap;
import java.util.List;
import java.util.Map;
import java.util.function.Supplier;

/**
 * The section "Errors", for every method: each error that its @return line names, the order of these errors, and that
 * a refused call changes nothing. Each call is made on a new drawer, which is compared with one that did not have it.
 */
public final class ErrorTests {
    /**
     * Calls that succeed on furnished(), each argument with its kind: s slot, l layer, t tokenizer, j joiner, i image,
     * c character, r kind of refusals, - place.
     */
    private static final String[] GOOD_CALLS = {
        "erase s0", "forget s0", "append s0 c97", "length s0", "characterAt s0 -0", "copy s0 s1", "same s0 s1", "type c97",
        "load l0", "write l0", "get l0 s0 s1", "getOr l0 s0 s1 s2", "has l0 s0", "layerOf l0 s0", "set l0 s0 s1 s2",
        "drop l0 s0 s1", "empty l0", "size l0", "names l0", "name l0 -0 s1", "keyFrom l0 s0 s1", "alike l0 l1",
        "tokenize t0 s0", "tokenizeBy t0 s0 s1", "tokenizeAll t0 s0 s1", "tokenizeValue t0 l0 s0 s1", "more t0",
        "count t0", "next t0 s0", "nextBy t0 s2 s0", "join j0 s0", "joinWithin j0 s0 s1 s2", "add j0 s0", "ifEmpty j0 s0",
        "merge j0 j1", "joined j0 s0", "joinedLength j0", "setJoined l0 s0 j0", "keep i0", "restore i0", "refusals r0"};

    private static final String[] FURNISHED = {
        "forget 4 NOTHING", "append 4 97 NOTHING", "append 4 256 BAD", "append 6 97 BAD", "length 4 NOTHING",
        "characterAt 4 0 NOTHING", "characterAt 4 -1 NOTHING", "characterAt 6 -1 BAD", "characterAt 3 0 NONE",
        "characterAt 0 1 NONE", "characterAt 0 -1 NONE", "copy 4 4 NOTHING", "copy 4 6 BAD", "tapeAt 3 NONE",
        "tapeAt -1 NONE", "get 3 4 1 NULL_POINTER", "get 3 5 1 NONE", "get 0 5 1 NONE", "get 4 4 1 BAD", "get 3 4 6 BAD",
        "get 3 5 6 BAD", "getOr 3 4 4 1 NULL_POINTER", "getOr 3 4 1 1 NULL_POINTER", "getOr 3 5 4 1 NOTHING",
        "getOr 3 4 4 6 BAD", "getOr 3 0 6 1 BAD", "getOr 4 5 4 1 BAD", "has 0 4 NULL_POINTER", "has 2 4 NULL_POINTER",
        "has 4 4 BAD", "layerOf 3 4 NULL_POINTER", "layerOf 3 5 NONE", "layerOf 4 4 BAD", "layerOf 4 5 BAD",
        "set 0 0 4 1 NOTHING", "set 0 4 4 1 NOTHING", "set 0 4 0 1 NULL_POINTER", "set 0 4 4 6 BAD", "set 4 4 0 1 BAD",
        "drop 0 4 1 NULL_POINTER", "drop 2 4 1 NULL_POINTER", "drop 0 5 1 NONE", "drop 3 0 1 NONE", "drop 0 4 6 BAD",
        "drop 4 5 1 BAD", "name 0 -1 1 NONE", "name 0 2 1 NONE", "name 3 4 1 NONE", "name 3 160 1 NONE", "name 4 -1 1 BAD",
        "name 0 -1 6 BAD", "name 0 2 6 BAD", "keyFrom 0 4 1 NOTHING", "keyFrom 0 5 1 NONE", "keyFrom 0 4 6 BAD",
        "keyFrom 4 4 1 BAD", "keyFrom 4 5 1 BAD", "tokenize 0 4 NULL_POINTER", "tokenize 1 4 NULL_POINTER",
        "tokenize 2 4 BAD", "tokenizeBy 0 1 4 NOTHING", "tokenizeBy 0 4 4 NOTHING", "tokenizeBy 0 4 2 NULL_POINTER",
        "tokenizeBy 2 4 4 BAD", "tokenizeBy 2 4 2 BAD", "tokenizeAll 0 1 4 NOTHING", "tokenizeAll 0 4 4 NOTHING",
        "tokenizeAll 0 4 2 NULL_POINTER", "tokenizeAll 2 4 4 BAD", "tokenizeAll 2 4 2 BAD", "tokenizeValue 0 3 0 4 NOTHING",
        "tokenizeValue 0 3 4 4 NOTHING", "tokenizeValue 0 3 5 4 NOTHING", "tokenizeValue 0 3 4 2 NULL_POINTER",
        "tokenizeValue 0 3 5 2 NONE", "tokenizeValue 0 4 4 4 BAD", "tokenizeValue 2 3 4 2 BAD", "tokenizeValue 2 3 5 2 BAD",
        "more 1 NOT_MADE", "count 1 NOT_MADE", "next 1 0 NOT_MADE", "next 1 6 BAD", "nextBy 1 2 0 NOT_MADE",
        "nextBy 1 4 0 NOT_MADE", "nextBy 1 4 6 BAD", "nextBy 0 4 0 NOTHING", "nextBy 0 4 6 BAD", "join 0 4 NULL_POINTER",
        "join 2 4 NULL_POINTER", "join 3 4 BAD", "joinWithin 0 4 0 0 NULL_POINTER", "joinWithin 0 0 4 0 NULL_POINTER",
        "joinWithin 0 0 0 4 NULL_POINTER", "joinWithin 2 4 4 4 NULL_POINTER", "joinWithin 3 4 4 4 BAD",
        "joinWithin 0 4 4 6 BAD", "add 2 0 NOT_MADE", "add 2 4 NOT_MADE", "add 2 6 BAD", "ifEmpty 2 0 NOT_MADE",
        "ifEmpty 2 4 NOT_MADE", "ifEmpty 2 6 BAD", "ifEmpty 0 4 NULL_POINTER", "ifEmpty 1 4 NULL_POINTER",
        "ifEmpty 3 4 BAD", "merge 0 0 BAD", "merge 1 1 BAD", "merge 2 2 BAD", "merge 0 2 NOT_MADE", "merge 2 0 NOT_MADE",
        "merge 2 3 BAD", "joined 2 0 NOT_MADE", "joined 2 6 BAD", "joinedLength 2 NOT_MADE", "setJoined 0 0 2 NOT_MADE",
        "setJoined 0 4 2 NOT_MADE", "setJoined 0 4 0 NULL_POINTER", "setJoined 0 4 3 BAD", "setJoined 4 0 2 BAD",
        "setJoined 4 4 0 BAD", "restore 1 NOT_MADE", "restore 2 BAD", "keep 2 BAD", "refusals 2 BAD", "load 4 BAD",
        "write 4 BAD"};

    private static final String[] CRAMMED = {
        "append 0 97 FULL", "append 0 256 BAD", "type 97 FULL", "type 0 BAD", "load 2 FULL", "load 4 BAD", "write 2 FULL",
        "write 3 FULL", "write 4 BAD", "set 2 1 2 5 FULL", "set 2 1 4 5 NOTHING", "set 2 4 2 5 NULL_POINTER",
        "set 2 4 4 5 NOTHING", "set 2 1 2 6 BAD", "setJoined 2 1 0 FULL", "setJoined 2 4 0 NULL_POINTER",
        "setJoined 2 1 3 BAD", "joinWithin 0 1 0 2 FULL", "joinWithin 1 1 2 0 FULL", "joinWithin 1 1 0 0 FULL",
        "joinWithin 0 4 0 0 NULL_POINTER", "joinWithin 0 0 0 4 NULL_POINTER", "joinWithin 3 1 0 0 BAD", "add 0 2 FULL",
        "add 0 4 FULL", "add 0 6 BAD", "add 3 0 BAD", "merge 0 1 FULL", "merge 1 0 FULL", "merge 0 0 BAD"};

    private static final String[] BROKEN_TAPE = {"load 0 BROKEN", "load 2 BROKEN", "load 3 BROKEN", "load 4 BAD", "load -1 BAD"};

    private static final String[] EXHAUSTED = {
        "next 0 6 BAD", "next 0 -1 BAD", "nextBy 0 2 6 BAD", "nextBy 0 4 0 NOTHING", "nextBy 1 4 0 NOTHING",
        "next 0 0 NO_SUCH_ELEMENT", "next 1 0 NO_SUCH_ELEMENT", "nextBy 0 2 0 NO_SUCH_ELEMENT", "nextBy 0 3 0 NO_SUCH_ELEMENT",
        "nextBy 1 2 0 NO_SUCH_ELEMENT"};

    private static final Map<Character, Integer> BOUNDS = Map.of('s', 6, 'l', 4, 't', 2, 'j', 3, 'i', 2, 'c', 256, 'r', 2);
    private static final Map<String, Method> METHODS = new HashMap<>();

    public static void main(String[] args) throws Exception {
        for (Method method : SettingsDrawer.class.getMethods()) {
            METHODS.put(method.getName(), method);
        }
        outOfRange();
        withinRange();
        refuse("a drawer with a bit of everything", ErrorTests::furnished, FURNISHED);
        refuse("a drawer whose limits are reached", ErrorTests::crammed, CRAMMED);
        refuse("a full layer, and a broken tape", ErrorTests::brokenTape, BROKEN_TAPE);
        refuse("tokenizers without a next token", ErrorTests::exhausted, EXHAUSTED);
        saidChanges();
        Check.finish("ErrorTests");
    }

    /** How many numbers from 0 on a kind of argument may be; -1 for a place, which is never BAD. */
    private static int bound(char kind) {
        return BOUNDS.getOrDefault(kind, -1);
    }

    private static int call(SettingsDrawer x, String name, List<Integer> arguments) throws Exception {
        return (Integer) METHODS.get(name).invoke(x, arguments.toArray());
    }

    private static int constant(String name) throws Exception {
        return SettingsDrawer.class.getField(name).getInt(null);
    }

    private static List<Integer> arguments(String[] told) {
        List<Integer> all = new ArrayList<>();
        for (int i = 1; i < told.length; i++) {
            all.add(Integer.parseInt(told[i].substring(1)));
        }
        return all;
    }

    /** Slot 4 holds nothing; tokenizer 1, joiner 2 and image 1 are not made; no layer has what slot 5 holds. */
    private static SettingsDrawer furnished() {
        SettingsDrawer x = new SettingsDrawer();
        Check.type(x, "k=v0\nm=1,2\n");
        x.load(0);
        x.wipe();
        Check.type(x, "k=v1\n");
        x.load(1);
        x.keep(0);
        x.wipe();
        Check.type(x, "q=\nn");
        x.load(3);
        x.wipe();
        Check.type(x, "t=1");
        Check.put(x, 0, "k");
        Check.put(x, 1, "a,b;c,d");
        Check.put(x, 2, ",");
        x.erase(3);
        x.tokenizeBy(0, 1, 2);
        x.next(0, 5);
        Check.put(x, 5, "other");
        x.joinWithin(0, 2, 0, 1);
        x.add(0, 5);
        x.join(1, 2);
        x.ifEmpty(1, 5);
        return x;
    }

    /** Texts, tape, layer 2 and joiner 0 are as long as they may be; the tape's key is not in layer 2. */
    private static SettingsDrawer crammed() {
        SettingsDrawer x = new SettingsDrawer();
        Check.fortyEntries(x, 2);
        Check.put(x, 1, "new");
        Check.put(x, 2, ",");
        Check.putMany(x, 0, 'x', 295);
        x.set(1, 1, 0, 5);
        x.write(1);
        x.append(0, 'x');
        x.set(3, 1, 0, 5);
        while (x.length(0) < 300) {
            x.append(0, 'x');
        }
        x.join(0, 2);
        x.add(0, 0);
        x.join(1, 2);
        x.add(1, 2);
        return x;
    }

    /** The tape has good entries ahead of the broken one, and layer 2 is full. */
    private static SettingsDrawer brokenTape() {
        SettingsDrawer x = new SettingsDrawer();
        Check.fortyEntries(x, 2);
        Check.entry(x, 0, "a", "1");
        Check.type(x, "a=2\nb=3\nc=\\u01");
        return x;
    }

    private static SettingsDrawer exhausted() {
        SettingsDrawer x = new SettingsDrawer();
        Check.put(x, 0, "a,");
        Check.put(x, 2, ",");
        x.erase(3);
        x.tokenizeAll(0, 0, 2);
        x.next(0, 5);
        x.next(0, 5);
        x.tokenizeBy(1, 2, 2);
        return x;
    }

    /** All that a drawer holds, told by its own calls; the drawer is used up then. Long texts are told by a digest. */
    private static String state(SettingsDrawer x) {
        StringBuilder all = new StringBuilder();
        for (int layer = 0; layer < 4; layer++) {
            all.append(" layer ").append(x.size(layer)).append(' ').append(x.digest(layer)).append(' ').append(x.names(layer));
        }
        for (int slot = 0; slot < 6; slot++) {
            all.append(" slot ").append(takeText(x, slot));
        }
        for (int tokenizer = 0; tokenizer < 2; tokenizer++) {
            all.append(" tokenizer ").append(x.count(tokenizer)).append(x.more(tokenizer));
            all.append(' ').append(x.count(tokenizer) < 20 ? Check.tokens(x, tokenizer) : "");
        }
        for (int joiner = 0; joiner < 3; joiner++) {
            all.append(" joiner ").append(x.joined(joiner, 0)).append(' ').append(takeText(x, 0));
            x.erase(1);
            all.append(' ').append(x.add(joiner, 1)).append(' ').append(x.joined(joiner, 0)).append(' ').append(takeText(x, 0));
        }
        for (int image = 0; image < 2; image++) {
            all.append(" image ").append(x.restore(image));
            for (int layer = 0; layer < 4; layer++) {
                all.append(' ').append(x.digest(layer));
            }
        }
        x.empty(0);
        all.append(" tape ").append(x.tapeLength()).append(' ').append(x.brokenAt()).append(' ').append(x.load(0));
        all.append(' ').append(x.digest(0)).append(' ').append(x.tapeAt(0)).append(x.tapeAt(x.tapeLength() - 1));
        return all.toString();
    }

    /** The length and a digest of a slot's text; the slot holds nothing then, and layer 0 is empty. */
    private static String takeText(SettingsDrawer x, int slot) {
        int length = x.length(slot);
        x.empty(0);
        x.set(0, slot, slot, slot);
        return length + " " + x.digest(0);
    }

    private static void refuse(String where, Supplier<SettingsDrawer> made, String[] calls) throws Exception {
        String before = state(made.get());
        for (String told : calls) {
            String[] words = told.split(" ");
            List<Integer> arguments = new ArrayList<>();
            for (int i = 1; i < words.length - 1; i++) {
                arguments.add(Integer.parseInt(words[i]));
            }
            String answer = words[words.length - 1];
            Check.sentence(where + ": " + told);
            refuse(made, before, words[0], arguments, answer);
        }
    }

    private static void refuse(Supplier<SettingsDrawer> made, String before, String name, List<Integer> arguments,
            String answer) throws Exception {
        SettingsDrawer x = made.get();
        int nullPointers = x.refusals(0);
        int noSuchElements = x.refusals(1);
        String told = name + arguments;
        Check.due(told, call(x, name, arguments), constant(answer));
        Check.due("refusals(0) after " + told, x.refusals(0) - nullPointers, answer.equals("NULL_POINTER") ? 1 : 0);
        boolean noToken = answer.equals("NO_SUCH_ELEMENT");
        Check.due("refusals(1) after " + told, x.refusals(1) - noSuchElements, noToken ? 1 : 0);
        String wanted = before;
        if (noToken) {
            Check.due("the tokenizer is dropped after " + told, x.count(arguments.get(0)), SettingsDrawer.NOT_MADE);
            wanted = withoutTokenizers(before);
        }
        String after = state(x);
        Check.dueText("the drawer after " + told, noToken ? withoutTokenizers(after) : after, wanted);
    }

    private static String withoutTokenizers(String state) {
        return state.replaceAll(" tokenizer .* joiner ", " joiner ");
    }

    /** Every argument that has a range, out of this range by one and by far; the other arguments good, or wrong as well. */
    private static void outOfRange() throws Exception {
        String before = state(furnished());
        for (String told : GOOD_CALLS) {
            String[] words = told.split(" ");
            for (int i = 1; i < words.length; i++) {
                char kind = words[i].charAt(0);
                if (bound(kind) < 0) {
                    continue;
                }
                for (int wrong : new int[] {-1, bound(kind), Integer.MIN_VALUE, Integer.MAX_VALUE}) {
                    List<Integer> arguments = arguments(words);
                    arguments.set(i - 1, wrong);
                    Check.sentence("BAD: an argument is out of range: " + words[0] + arguments);
                    refuse(ErrorTests::furnished, before, words[0], arguments, "BAD");
                    refuse(ErrorTests::furnished, before, words[0], worst(words, arguments, i), "BAD");
                }
            }
        }
        for (int layer : new int[] {-1, 4, Integer.MIN_VALUE, Integer.MAX_VALUE}) {
            Check.sentence("Returns the digest; 0 if layer is out of range: " + layer);
            SettingsDrawer x = furnished();
            Check.due("digest(" + layer + ")", x.digest(layer), 0);
            Check.dueText("the drawer after digest(" + layer + ")", state(x), before);
        }
    }

    /** The other arguments name what holds nothing or is not made: BAD comes first in every @return line. */
    private static List<Integer> worst(String[] words, List<Integer> arguments, int wrong) {
        List<Integer> all = new ArrayList<>(arguments);
        for (int i = 1; i < words.length; i++) {
            if (i != wrong) {
                Integer other = Map.of('s', 4, 't', 1, 'j', 2, 'i', 1, '-', -1).get(words[i].charAt(0));
                all.set(i - 1, other == null ? arguments.get(i - 1) : other);
            }
        }
        return all;
    }

    /** Every argument at the lowest and the highest number of its range is taken. */
    private static void withinRange() throws Exception {
        for (String told : GOOD_CALLS) {
            String[] words = told.split(" ");
            for (int i = 1; i < words.length; i++) {
                char kind = words[i].charAt(0);
                if (bound(kind) < 0) {
                    continue;
                }
                for (int edge : new int[] {0, bound(kind) - 1}) {
                    List<Integer> arguments = arguments(words);
                    arguments.set(i - 1, edge);
                    boolean twoJoiners = words[0].equals("merge") && arguments.get(0).equals(arguments.get(1));
                    boolean ofOwnRange = words[0].equals("type");
                    Check.sentence("an argument at the edge of its range: " + words[0] + arguments);
                    if (!twoJoiners && !ofOwnRange) {
                        int answer = call(allMade(), words[0], arguments);
                        Check.due(words[0] + arguments + " is refused", answer < 0 ? answer : 0, 0);
                    }
                }
            }
        }
    }

    /** Whatever number a method may be told, there is something with this number, and no limit is reached. */
    private static SettingsDrawer allMade() {
        SettingsDrawer x = new SettingsDrawer();
        Check.type(x, "k=v\n");
        for (int slot = 0; slot < 6; slot++) {
            Check.put(x, slot, "k");
        }
        for (int layer = 0; layer < 4; layer++) {
            x.load(layer);
        }
        for (int joiner = 0; joiner < 3; joiner++) {
            x.join(joiner, 0);
        }
        for (int two = 0; two < 2; two++) {
            x.tokenizeAll(two, 0, 0);
            x.keep(two);
        }
        return x;
    }

    /** The changes that the document tells of refused calls. */
    private static void saidChanges() {
        String before = state(furnished());
        SettingsDrawer x = furnished();
        Check.sentence("NOTHING if it held nothing (it holds the empty text then).");
        Check.due("erase(4)", x.erase(4), SettingsDrawer.NOTHING);
        Check.due("length(4)", x.length(4), 0);
        x.forget(4);
        Check.dueText("the drawer after erase(4) and forget(4)", state(x), before);
        SettingsDrawer y = furnished();
        Check.sentence("NOTHING if from holds nothing (to holds nothing then).");
        Check.due("copy(4, 0)", y.copy(4, 0), SettingsDrawer.NOTHING);
        Check.due("length(0)", y.length(0), SettingsDrawer.NOTHING);
        Check.put(y, 0, "k");
        Check.dueText("the drawer after copy(4, 0), and slot 0 as before", state(y), before);
    }
}
