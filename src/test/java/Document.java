import java.io.IOException;
import java.nio.file.Files;
import java.nio.file.Path;
import java.util.ArrayList;
import java.util.List;
import java.util.Map;
import java.util.TreeMap;
import java.util.regex.Matcher;
import java.util.regex.Pattern;

/**
 * The document's text, and which of its clauses are quoted. Part 0 is all that stands ahead of the
 * promises, and the other parts are the promises by their numbers.
 */
final class Document {
  private static final Path FILE = Path.of("../shared/DOC.md");
  private static final Pattern HEADING = Pattern.compile("Promise (\\d+): .*");
  // A full stop, but none of the two dots of '1 .. 5', or a semicolon.
  private static final Pattern CLAUSE_END = Pattern.compile("(?<![.\\s])\\.(?=\\s|$)|;");
  // These say only how the interface is ordered.
  private static final String NO_PROMISE = "Ahead of the calls";

  private final Map<Integer, String> parts = new TreeMap<>();
  private final Map<Integer, boolean[]> quoted = new TreeMap<>();

  Document() throws IOException {
    StringBuilder ahead = new StringBuilder();
    for (String section : Files.readString(FILE).split("(?m)^## ")) {
      String title = section.lines().findFirst().orElse("");
      String text = section.substring(title.length()).replaceAll("(?m)^```.*$", " ").replaceAll("\\s+", " ").trim();
      Matcher heading = HEADING.matcher(title);
      if (heading.matches()) {
        parts.put(Integer.parseInt(heading.group(1)), text);
      } else if (title.equals("What it is") || title.equals("Terms")) {
        ahead.append(text).append(' ');
      }
    }
    parts.put(0, ahead.toString());
    parts.forEach((n, text) -> quoted.put(n, new boolean[text.length()]));
  }

  int promises() {
    return parts.size() - 1;
  }

  /** Keeps in mind that the words are quoted; false if they don't stand there. */
  boolean quote(int promise, String words) {
    return parts.containsKey(promise) && (mark(promise, words) | mark(0, words));
  }

  private boolean mark(int part, String words) {
    String text = parts.get(part);
    int found = text.indexOf(words);
    boolean stands = found >= 0;
    while (found >= 0) {
      for (int i = found; i < found + words.length(); i++) {
        quoted.get(part)[i] = true;
      }
      found = text.indexOf(words, found + 1);
    }
    return stands;
  }

  List<String> clausesThatNoCaseQuotes() {
    List<String> unquoted = new ArrayList<>();
    parts.forEach((n, text) -> {
      Matcher end = CLAUSE_END.matcher(text);
      int start = 0;
      while (start < text.length()) {
        int stop = end.find(start) ? end.end() : text.length();
        String clause = text.substring(start, stop).trim();
        if (!clause.isEmpty() && !clause.startsWith(NO_PROMISE) && !isQuoted(n, start, stop)) {
          unquoted.add((n == 0 ? "ahead of the promises: " : "promise " + n + ": ") + clause);
        }
        start = stop;
      }
    });
    return unquoted;
  }

  private boolean isQuoted(int part, int start, int stop) {
    for (int i = start; i < stop; i++) {
      if (quoted.get(part)[i]) {
        return true;
      }
    }
    return false;
  }
}
