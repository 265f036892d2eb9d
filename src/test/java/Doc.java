import java.io.IOException;
import java.nio.file.Files;
import java.nio.file.Path;
import java.util.Arrays;
import java.util.LinkedHashMap;
import java.util.Map;
import java.util.regex.Matcher;
import java.util.regex.Pattern;

/**
 * The sentences of ../shared/DOC.md. Each test of a sentence names it word for word, and what of the
 * Terms and the Promises no test names is told as missing.
 */
final class Doc {
  private static final Path FILE = Path.of("../shared/DOC.md");

  /** By name ("Terms 1", "Promise 34") what the document says there, in one line. */
  private static final Map<String, String> PARTS = new LinkedHashMap<>();

  /** By name of a part which of its signs stand in a sentence that has a test. */
  private static final Map<String, boolean[]> NAMED = new LinkedHashMap<>();

  private static String part = "";

  private Doc() {}

  static void open() throws IOException {
    if (!Files.exists(FILE)) {
      System.out.println("no " + FILE + ": the sentences' wording is not compared");
      return;
    }
    String text = Files.readString(FILE);
    Matcher terms = Pattern.compile("(?ms)^==== (\\d) (.*?)(?=^==== |^Ahead of the calls )").matcher(text);
    while (terms.find()) {
      keep("Terms " + terms.group(1), terms.group(2));
    }
    Matcher promises = Pattern.compile("(?ms)^## (Promise \\d+): [^\n]*\n\\s*`[^`]*`:(.*?)(?=^## )").matcher(text);
    while (promises.find()) {
      keep(promises.group(1), promises.group(2));
    }
    Due.is("parts of the document", PARTS.size(), 3 + 34);
  }

  private static void keep(String name, String text) {
    String line = text.replace("```text", "").replace("```", "").replaceAll("\\s+", " ").trim();
    PARTS.put(name, line);
    NAMED.put(name, new boolean[line.length()]);
  }

  static void part(String name) {
    part = name;
  }

  /** Runs the test of a sentence that stands in this part. */
  static void says(String sentence, Runnable test) {
    Due.about = part + ", \"" + sentence + "\": ";
    if (!PARTS.isEmpty()) {
      name(sentence);
    }
    int before = Due.compared();
    try {
      test.run();
    } catch (RuntimeException thrown) {
      Due.holds("no call throws, but " + thrown, false);
    }
    Due.holds("something is compared", Due.compared() > before);
    Due.about = "";
  }

  /** Marks the first place where the sentence stands and was not yet marked. */
  private static void name(String sentence) {
    String text = PARTS.getOrDefault(part, "");
    int first = text.indexOf(sentence);
    Due.holds("the document says so", first >= 0);
    for (int at = first; at >= 0; at = text.indexOf(sentence, at + 1)) {
      boolean[] named = NAMED.get(part);
      if (!named[at]) {
        Arrays.fill(named, at, at + sentence.length(), true);
        return;
      }
    }
  }

  /** Tells what no test named. */
  static void close() {
    for (Map.Entry<String, String> entry : PARTS.entrySet()) {
      StringBuilder rest = new StringBuilder();
      boolean[] named = NAMED.get(entry.getKey());
      for (int i = 0; i < named.length; i++) {
        rest.append(named[i] ? ' ' : entry.getValue().charAt(i));
      }
      String left = rest.toString().replaceAll("\\s+", " ").trim();
      Due.holds(entry.getKey() + " has a test for \"" + left + "\"", left.isEmpty());
    }
  }
}
