import java.util.ArrayList;
import java.util.List;
import java.util.regex.Matcher;
import java.util.regex.Pattern;

/** The document's section on reading, told by regular expressions over a tape whose signs carry their places. */
final class TapeModel {
    private static final Pattern LINE = Pattern.compile("([^\n\r]*)(\r\n|\r|\n|$)");
    private static final Pattern ENTRY = Pattern.compile("((?:\\\\.|[^\\\\=: \t])*)[ \t]*(?:[=:][ \t]*)?(.*)", Pattern.DOTALL);
    private static final Pattern PIECE = Pattern.compile("\\\\u([0-9a-fA-F]{4})?|\\\\(.)|([^\\\\])", Pattern.DOTALL);

    /** Pairs of key and value. They are whole only if the tape is not broken. */
    final List<String[]> entries = new ArrayList<>();
    /** The place of the first broken pair, or -1. */
    int brokenAt = -1;

    TapeModel(String tape) {
        List<String> lines = new ArrayList<>();
        List<Integer> starts = new ArrayList<>();
        Matcher line = LINE.matcher(tape);
        boolean last = false;
        while (!last && line.find()) {
            lines.add(line.group(1));
            starts.add(line.start());
            last = line.group(2).isEmpty();
        }
        for (int i = 0; i < lines.size(); i++) {
            String stripped = lines.get(i).replaceFirst("^[ \t]+", "");
            if (stripped.isEmpty() || stripped.startsWith("#") || stripped.startsWith("!")) {
                continue;
            }
            StringBuilder text = new StringBuilder();
            List<Integer> places = new ArrayList<>();
            boolean goesOn = true;
            while (goesOn) {
                String own = lines.get(i);
                goesOn = own.replaceFirst("(?s)^.*[^\\\\]", "").length() % 2 == 1;
                for (int c = own.length() - own.replaceFirst("^[ \t]+", "").length(); c < own.length() - (goesOn ? 1 : 0); c++) {
                    text.append(own.charAt(c));
                    places.add(starts.get(i) + c);
                }
                goesOn = goesOn && i + 1 < lines.size();
                i += goesOn ? 1 : 0;
            }
            if (text.length() > 0) {
                take(text.toString(), places);
            }
        }
    }

    private void take(String text, List<Integer> places) {
        Matcher entry = ENTRY.matcher(text);
        if (!entry.matches()) {
            throw new IllegalStateException("every text is an entry");
        }
        String key = unescaped(entry.group(1), places.subList(entry.start(1), entry.end(1)));
        String value = unescaped(entry.group(2), places.subList(entry.start(2), entry.end(2)));
        entries.add(new String[] {key, value});
    }

    private String unescaped(String part, List<Integer> places) {
        StringBuilder all = new StringBuilder();
        Matcher piece = PIECE.matcher(part);
        while (piece.find()) {
            if (piece.group(3) != null) {
                all.append(piece.group(3));
            } else if (piece.group(2) != null) {
                int letter = "tnr".indexOf(piece.group(2));
                all.append(letter >= 0 ? "\t\n\r".substring(letter, letter + 1) : piece.group(2));
            } else if (piece.group(1) != null && Integer.parseInt(piece.group(1), 16) <= 255) {
                all.append((char) Integer.parseInt(piece.group(1), 16));
            } else if (brokenAt < 0) {
                brokenAt = places.get(piece.start());
            }
        }
        return all.toString();
    }
}
